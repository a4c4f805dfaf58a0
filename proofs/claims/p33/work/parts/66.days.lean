/-! days that pass: which rows come, and what they do to a shard -/
theorem ord_all {r : Row} {o o' : Nat → Int} (h : Srt r o 16) (h' : Srt r o' 16) {i : Nat} (hi : i < 16) : o i = o' i := by
  have h1 := h.1 i hi
  have h2 := h'.1 i hi
  exact ordF_inj (r := r) (by omega) (by omega) (by rw [ord_is h hi, ord_is h' hi])
theorem drvF_same {o o' : Nat → Int} {N : Nat} {r : Row} (h : ∀ i, i < 16 → o i = o' i) : ∀ n : Nat, n ≤ 16 → drvF o N r n = drvF o' N r n := by
  intro n
  induction n with
  | zero => intro _; rfl
  | succ n ih =>
    intro hn
    show drvS o N n (drvF o N r n) = drvS o' N n (drvF o' N r n)
    rw [ih (by omega)]
    unfold drvS
    rw [h n (by omega)]
theorem dayF_same {B : Int} {o o' : Nat → Int} {N Nw : Nat} {r : Row} (W : WF B r) (h8 : N ≤ 8) (h3 : Nw ≤ 3) (h : Srt (coolF r 16) o 16) (h' : Srt (coolF r 16) o' 16) : dayF o N Nw r = dayF o' N Nw r := by
  unfold dayF
  rw [drvF_same (fun i hi => ord_all h h' hi) 16 (by decide)]
def Days (N Nw : Nat) : Nat → Row → Row → Prop
  | 0, r, r' => r' = r
  | n + 1, r, r' => ∃ o, Srt (coolF r 16) o 16 ∧ Days N Nw n (dayF o N Nw r) r'
theorem Days_last {N Nw : Nat} : ∀ (n : Nat) (r r' : Row), Days N Nw (n + 1) r r' → ∃ a o, Days N Nw n r a ∧ Srt (coolF a 16) o 16 ∧ r' = dayF o N Nw a := by
  intro n
  induction n with
  | zero =>
    intro r r' h
    obtain ⟨o, h1, h2⟩ := h
    exact ⟨r, o, rfl, h1, h2⟩
  | succ n ih =>
    intro r r' h
    obtain ⟨o, h1, h2⟩ := h
    obtain ⟨a, o2, g1, g2, g3⟩ := ih _ _ h2
    exact ⟨a, o2, ⟨o, h1, g1⟩, g2, g3⟩
theorem goF_mov {r : Row} {h q y : Int} (hh : 0 ≤ h ∧ h < 16) (h1 : 0 ≤ r (416 + h).toNat ∧ r (416 + h).toNat < 8) (hq : 0 ≤ q ∧ q < 8) (hy : 0 ≤ y ∧ y < 16) : goF r h q (448 + y).toNat = if y = h then r (448 + y).toNat + 1 else r (448 + y).toNat := by
  by_cases e : y = h
  · rw [if_pos e, e]
    unfold goF
    rw [up_ne (by omega), up_eq]
  · rw [if_neg e, goF_o hh h1 hq (by omega)]
theorem drv_y {B : Int} {o : Nat → Int} {N : Nat} {r : Row} (W : WF B r) (hN : r 863 = N) (ho : Srt r o 16) {y : Int} (hy : 0 ≤ y ∧ y < 16) : ∀ n : Nat, n ≤ 16 → ((drvF o N r n).1 (448 + y).toNat = r (448 + y).toNat ∧ (drvF o N r n).1 (416 + y).toNat = r (416 + y).toNat) ∨ ((drvF o N r n).1 (448 + y).toNat = r (448 + y).toNat + 1 ∧ (drvF o N r n).1 (416 + y).toNat ≠ r (416 + y).toNat ∧ ∃ i, i < n ∧ o i = y) := by
  intro n
  induction n with
  | zero => intro _; exact Or.inl ⟨rfl, rfl⟩
  | succ n ih =>
    intro hn
    have h0 := ih (by omega)
    obtain ⟨i1, i2, i3, i4, i5⟩ := drvF_ok W hN ho.1 n (by omega)
    have hN' : (drvF o N r n).1 863 = N := by rw [i2 863 (by omega) (by decide), hN]
    have hon := ho.1 n (by omega)
    have stay : ∀ x : Row × Int, x = drvF o N r n → (x.1 (448 + y).toNat = r (448 + y).toNat ∧ x.1 (416 + y).toNat = r (416 + y).toNat) ∨ (x.1 (448 + y).toNat = r (448 + y).toNat + 1 ∧ x.1 (416 + y).toNat ≠ r (416 + y).toNat ∧ ∃ i, i < n + 1 ∧ o i = y) := by
      intro x hx
      rw [hx]
      rcases h0 with h0 | ⟨a, b, i, c, d⟩
      · exact Or.inl h0
      · exact Or.inr ⟨a, b, i, by omega, d⟩
    rw [show (drvF o N r (n + 1)) = drvS o N n (drvF o N r n) from rfl]
    unfold drvS
    by_cases c1 : (drvF o N r n).1 859 ≤ (drvF o N r n).2
    · rw [if_pos c1]; exact stay _ rfl
    rw [if_neg c1]
    by_cases c2 : lokF (drvF o N r n).1 (o n) N = -5
    · rw [if_pos c2]; exact stay _ rfl
    rw [if_neg c2]
    by_cases c3 : disF (drvF o N r n).1 ((drvF o N r n).1 (416 + o n).toNat) - disF (drvF o N r n).1 (lokF (drvF o N r n).1 (o n) N) < (drvF o N r n).1 858
    · rw [if_pos c3]; exact stay _ rfl
    rw [if_neg c3]
    have hnn := WF1_n i1.1
    rcases lok_ok (r := (drvF o N r n).1) (h := o n) N with e | ⟨e1, e2⟩
    · exact absurd e c2
    · have hat := WF1_at i1.1 (h := o n) (by omega) (by omega)
      have g1 := goF_at (r := (drvF o N r n).1) (h := o n) (q := lokF (drvF o N r n).1 (o n) N) (y := y) (by omega) (by omega) (by omega) hy
      have g2 := goF_mov (r := (drvF o N r n).1) (h := o n) (q := lokF (drvF o N r n).1 (o n) N) (y := y) (by omega) (by omega) (by omega) hy
      show (goF (drvF o N r n).1 (o n) (lokF (drvF o N r n).1 (o n) N) (448 + y).toNat = r (448 + y).toNat ∧ goF (drvF o N r n).1 (o n) (lokF (drvF o N r n).1 (o n) N) (416 + y).toNat = r (416 + y).toNat) ∨ (goF (drvF o N r n).1 (o n) (lokF (drvF o N r n).1 (o n) N) (448 + y).toNat = r (448 + y).toNat + 1 ∧ goF (drvF o N r n).1 (o n) (lokF (drvF o N r n).1 (o n) N) (416 + y).toNat ≠ r (416 + y).toNat ∧ ∃ i, i < n + 1 ∧ o i = y)
      rw [g1, g2]
      by_cases e : y = o n
      · rw [if_pos e, if_pos e]
        rcases h0 with ⟨a, b⟩ | ⟨a, b, i, c, d⟩
        · refine Or.inr ⟨by omega, ?_, n, by omega, e.symm⟩
          rw [← e] at e2 ⊢
          rw [← b]
          exact e2
        · exfalso
          have hb := ho.2 i n c (by omega)
          rw [d, e] at hb
          exact bef_ir hb
      · rw [if_neg e, if_neg e]
        rcases h0 with h0 | ⟨a, b, i, c, d⟩
        · exact Or.inl h0
        · exact Or.inr ⟨a, b, i, by omega, d⟩
theorem day_y {B : Int} {o : Nat → Int} {r : Row} (W : WF B r) {N Nw : Nat} (hN : r 863 = N) (h3 : Nw ≤ 3) (ho : Srt (coolF r 16) o 16) {y : Int} (hy : 0 ≤ y ∧ y < 16) : (dayF o N Nw r (448 + y).toNat = r (448 + y).toNat ∧ dayF o N Nw r (416 + y).toNat = r (416 + y).toNat) ∨ (dayF o N Nw r (448 + y).toNat = r (448 + y).toNat + 1 ∧ dayF o N Nw r (416 + y).toNat ≠ r (416 + y).toNat) := by
  have hn := WF1_n W.1
  have h8 : N ≤ 8 := by omega
  obtain ⟨k1, k2, k3⟩ := dayR_ok W h8 h3
  have hN2 : dayR N Nw r 863 = N := by rw [k2 863 (by omega) (by omega) (by omega), hN]
  have h1 := drv_y (o := o) k1 hN2 ((Srt_day W h8 h3).mpr ho) hy 16 (by decide)
  have e1 : ∀ j, 160 ≤ j → j ≠ 862 → dayF o N Nw r j = (drvF o N (dayR N Nw r) 16).1 j := fun j a b => by
    unfold dayF nxt
    rw [up_ne b, dayP_o h8 (by omega)]
  rw [e1 _ (by omega) (by omega), e1 _ (by omega) (by omega)]
  rw [k2 (448 + y).toNat (by omega) (by omega) (by omega), k2 (416 + y).toNat (by omega) (by omega) (by omega)] at h1
  rcases h1 with h1 | ⟨a, b, -⟩
  · exact Or.inl h1
  · exact Or.inr ⟨a, b⟩
theorem days_y {N Nw : Nat} (h3 : Nw ≤ 3) {y : Int} (hy : 0 ≤ y ∧ y < 16) : ∀ (n : Nat) (B : Int) (r r' : Row), WF B r → r 863 = N → r 864 = Nw → r 862 + n ≤ 10100 → Days N Nw n r r' → r (448 + y).toNat ≤ r' (448 + y).toNat ∧ (r' (448 + y).toNat = r (448 + y).toNat → r' (416 + y).toNat = r (416 + y).toNat) ∧ WF (B + 16 * n) r' ∧ r' 863 = N ∧ r' 864 = Nw ∧ r' 862 = r 862 + n := by
  intro n
  induction n with
  | zero =>
    intro B r r' W hN hW hd h
    have h : r' = r := h
    rw [h, show B + 16 * ((0 : Nat) : Int) = B by omega]
    exact ⟨Int.le_refl _, fun _ => rfl, W, hN, hW, by omega⟩
  | succ n ih =>
    intro B r r' W hN hW hd h
    obtain ⟨o, h1, h2⟩ := h
    obtain ⟨k1, k2, k3, k4, k5, k6⟩ := dayF_ok W hN h3 h1 (by omega)
    obtain ⟨i1, i2, i3, i4, i5, i6⟩ := ih (B + 16) _ r' k1 (by rw [k2 863 (by omega) (by omega) (by omega) (by omega) (by omega), hN]) (by rw [k2 864 (by omega) (by omega) (by omega) (by omega) (by omega), hW]) (by omega) h2
    have hd := day_y W hN h3 h1 hy
    refine ⟨by omega, fun e => ?_, by rw [show B + 16 * ((n + 1 : Nat) : Int) = B + 16 + 16 * (n : Int) by omega]; exact i3, i4, i5, by omega⟩
    rcases hd with ⟨a, b⟩ | ⟨a, b⟩
    · rw [← b]; exact i2 (by omega)
    · omega
theorem q_pass_l {N Nw : Nat} {v1 : Int} (hv : v1 ≤ 60) : ∀ (d v F : Nat) (B c : Int) (M : Mem) (r : Row), (v : Int) + d = v1 → d < F → ST M 1 r → WF B r → WX r → r 863 = N → r 864 = Nw → r 862 + d ≤ 10100 → 0 ≤ c → ∃ x M' r', f_X9_pass_b46 F v1 c v M = some (x, M') ∧ (0 ≤ x ∧ x ≤ c + 16 * d) ∧ ST M' 1 r' ∧ WF (B + 16 * d) r' ∧ WX r' ∧ Kp 1 29 M M' ∧ r' 862 = r 862 + d ∧ r' 865 = r 865 ∧ Days N Nw d r r' := by
  intro d
  induction d with
  | zero =>
    intro v F B c M r h1 h2 hS W X hN hW hd hc
    obtain ⟨F, rfl⟩ : ∃ k, F = k + 1 := ⟨F - 1, by omega⟩
    refine ⟨c, M, r, ?_, ⟨hc, by omega⟩, hS, ?_, X, Kp_id, by omega, rfl, rfl⟩
    · unfold f_X9_pass_b46
      rw [if_pos (by omega), if_pos (by omega), if_pos (by omega)]
    · rw [show B + 16 * ((0 : Nat) : Int) = B by omega]; exact W
  | succ d ih =>
    intro v F B c M r h1 h2 hS W X hN hW hd hc
    obtain ⟨F, rfl⟩ : ∃ k, F = k + 1 := ⟨F - 1, by omega⟩
    have hw := WF1_nw W.1
    have h3 : Nw ≤ 3 := by omega
    obtain ⟨o, M1, e1, e2, e3, e4⟩ := q_day hS W hN hW
    obtain ⟨k1, k2, k3, k4, k5, k6⟩ := dayF_ok W hN h3 e1 (by omega)
    obtain ⟨x, M', r', i1, ⟨i2, i2'⟩, i3, i4, iX, i5, i6, i7, i8⟩ := ih (v + 1) F (B + 16) (c + dayC o N Nw r) M1 (dayF o N Nw r) (by omega) (by omega) e3 k1 (dayF_wx W X hN h3 e1) (by rw [k2 863 (by omega) (by omega) (by omega) (by omega) (by omega), hN]) (by rw [k2 864 (by omega) (by omega) (by omega) (by omega) (by omega), hW]) (by omega) (by omega)
    push_cast at i1
    refine ⟨x, M', r', ?_, ⟨i2, by omega⟩, i3, ?_, iX, Kp_tr e4 i5, by omega, by rw [i7, k2 865 (by omega) (by omega) (by omega) (by omega) (by omega)], o, e1, i8⟩
    · unfold f_X9_pass_b46
      rw [if_pos (by omega), if_pos (by omega), if_neg (by omega), e2, zbS, zltS]
      exact i1
    · rw [show B + 16 * ((d + 1 : Nat) : Int) = B + 16 + 16 * (d : Int) by omega]; exact i4
/-- days that pass, told by their rows -/
theorem q_pass {B : Int} {M : Mem} {r : Row} (I : Inv B M r) {N Nw : Nat} (hN : r 863 = N) (hW : r 864 = Nw) {v1 : Int} (hv : 1 ≤ v1 ∧ v1 ≤ 60) (hd : r 862 + v1 ≤ 9999) : ∃ x M' r', f_X9_pass v1 M = some (x, M') ∧ (0 ≤ x ∧ x ≤ 960) ∧ Inv (B + 1000) M' r' ∧ Top (B + 1000) M' r ∧ Days N Nw v1.toNat r r' ∧ r' 865 = r 865 ∧ r' 862 = r 862 + v1 ∧ ∀ y, y = 0 ∨ (59 ≤ y ∧ y < 88) → M' y = M y := by
  have hS := I.2.1.1
  have W := I.2.1.2.1
  have hday : M 1 0 = r 862 := hS.1.day
  have hb := WF1_day W.1
  obtain ⟨M1, s1, I1, T1, kc⟩ := q_store I
  obtain ⟨x, M', r', i1, ⟨i2, i2'⟩, i3, i4, iX, i5, i6, i7, i8⟩ := q_pass_l (v1 := v1) hv.2 v1.toNat 0 100000 B 0 M1 r (by omega) (by omega) I1.2.1.1 W I.2.1.2.2.2 hN hW (by omega) (Int.le_refl _)
  rw [show ((0 : Nat) : Int) = 0 from rfl] at i1
  refine ⟨x, M', r', ?_, ⟨i2, by omega⟩, Inv_op I1 (by omega) ⟨i3, WF_B i4 (by omega), by omega, iX⟩ (fun y hy => i5 y (by omega)), Top_to T1 (by omega) (fun y h1 h2 => i5 y (by omega)), i8, i7, by omega, fun y hy => by rw [i5 y (by omega), kc y (by omega)]⟩
  unfold f_X9_pass
  rw [q_in (by omega) (by decide) (by decide), zbS, bitR, bit0, if_pos hv, hday, if_pos (by omega), if_pos hd, s1, zbS]
  exact i1
theorem a_pass {v1 c : Int} (hv : inR v1) (hc : 0 ≤ c ∧ v1 ≤ c) : Act c (f_X9_pass v1) := by
  intro B M r I hB
  have hS := I.2.1.1
  have W := I.2.1.2.1
  have hday : M 1 0 = r 862 := hS.1.day
  have hb := WF1_day W.1
  by_cases c1 : 1 ≤ v1 ∧ v1 ≤ 60
  · by_cases c2 : r 862 + v1 ≤ 9999
    · have hn := WF1_n W.1
      have hw := WF1_nw W.1
      obtain ⟨x, M', r', i1, i2, i3, i4, i5, i6, i7, i8⟩ := q_pass I (N := (r 863).toNat) (Nw := (r 864).toNat) (by omega) (by omega) c1 c2
      exact ⟨x, M', r', i1, ⟨by omega, by omega⟩, i3, fun h => by omega, fun _ => i4, by omega, by omega, i8⟩
    · refine act_no I hc.1 (x := -4) (by decide) ?_
      unfold f_X9_pass
      rw [q_in hv (by decide) (by decide), zbS, bitR, bit0, if_pos c1, hday, if_pos (by omega), if_neg c2]
  · refine act_no I hc.1 (x := -2) (by decide) ?_
    unfold f_X9_pass
    rw [q_in hv (by decide) (by decide), zbS, bitR, bit0, if_neg c1]

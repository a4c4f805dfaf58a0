theorem q_moves_l {N Nw : Nat} (h3 : Nw ≤ 3) {v1 v2 : Int} (hv : 0 ≤ v1 ∧ v1 < 16) (h2v : inR v2) : ∀ (d k F : Nat) (B : Int) (M : Mem) (r s : Row), k + d = 60 → d < F → ST M 30 s → WF B s → WF B r → r 863 = N → r 864 = Nw → (∀ j, Hp j → s j = r j) → r 862 + d ≤ 10100 → B + 16 * d ≤ 2147483647 → r (448 + v1).toNat = v2 → ∃ x M', f_X9_movesIn_b35 F v1 v2 ((k : Int) + 1) M = some (x, M') ∧ Kp 30 29 M M' ∧ ((x = -5 ∧ ∀ j, j ≤ d → ∀ r', Days N Nw j r r' → r' (448 + v1).toNat = v2) ∨ ∃ m : Nat, 1 ≤ m ∧ m ≤ d ∧ x = (k : Int) + m ∧ (∀ j, j < m → ∀ r', Days N Nw j r r' → r' (448 + v1).toNat = v2) ∧ ∀ r', Days N Nw m r r' → r' (448 + v1).toNat ≠ v2) := by
  intro d
  induction d with
  | zero =>
    intro k F B M r s h1 h2 hS Ws W hN hW hH hd hB hm
    obtain ⟨F, rfl⟩ : ∃ k, F = k + 1 := ⟨F - 1, by omega⟩
    refine ⟨-5, M, ?_, Kp_id, Or.inl ⟨rfl, fun j hj r' hr => ?_⟩⟩
    · unfold f_X9_movesIn_b35
      rw [if_pos (by omega), if_pos (by omega)]
    · obtain rfl : j = 0 := by omega
      have hr : r' = r := hr
      rw [hr]; exact hm
  | succ d ih =>
    intro k F B M r s h1 h2 hS Ws W hN hW hH hd hB hm
    obtain ⟨F, rfl⟩ : ∃ k, F = k + 1 := ⟨F - 1, by omega⟩
    have hb := WF1_mov W.1 hv.1 hv.2
    have hn := WF1_n W.1
    have hNs : s 863 = N := by rw [hH 863 (by omega), hN]
    obtain ⟨o, M1, e1, e2, e3, e4⟩ := q_hday hS Ws hNs
    have ho : Srt (coolF r 16) o 16 := Srt_c (by decide) e1 (fun j a1 a2 => by unfold coolF; rw [hH j (by omega)])
    obtain ⟨k1, k2, k3, k4, k5, k6⟩ := dayF_ok W hN h3 ho (by omega)
    obtain ⟨s1, s2, s3⟩ := hdF_ok Ws hNs e1 (by rw [hH 862 (by omega)]; omega)
    have hH1 := day_c (Nw := Nw) W Ws hN h3 ho hH
    have hb1 := WF1_mov k1.1 hv.1 hv.2
    have a1 : M1 46 v1.toNat = enc false (hdF o N s (448 + v1).toNat) := e3.1.moves hv.1 hv.2
    simp only [enc, Bool.false_eq_true, if_false] at a1
    rw [hH1 _ (by omega)] at a1
    have one : ∀ o', Srt (coolF r 16) o' 16 → dayF o' N Nw r = dayF o N Nw r := fun o' h' => dayF_same W (by omega) h3 h' ho
    by_cases c : dayF o N Nw r (448 + v1).toNat = v2
    · obtain ⟨x, M', i1, i3, i4⟩ := ih (k + 1) F (B + 16) M1 (dayF o N Nw r) (hdF o N s) (by omega) (by omega) e3 s1 k1 (by rw [k2 863 (by omega) (by omega) (by omega) (by omega) (by omega), hN]) (by rw [k2 864 (by omega) (by omega) (by omega) (by omega) (by omega), hW]) hH1 (by omega) (by omega) c
      push_cast at i1
      refine ⟨x, M', ?_, Kp_tr e4 i3, ?_⟩
      · unfold f_X9_movesIn_b35
        rw [if_pos (by omega), if_neg (by omega), e2, zbS, if_pos hv, a1, if_pos (by omega), if_pos h2v, if_pos c]
        exact i1
      · rcases i4 with ⟨j1, j2⟩ | ⟨m, j1, j2, j3, j4, j5⟩
        · refine Or.inl ⟨j1, fun j hj r' hr => ?_⟩
          match j, hj, hr with
          | 0, _, hr =>
            have hr : r' = r := hr
            rw [hr]; exact hm
          | j + 1, hj, ⟨o', h', hr⟩ =>
            rw [one o' h'] at hr
            exact j2 j (by omega) r' hr
        · refine Or.inr ⟨m + 1, by omega, by omega, by omega, fun j hj r' hr => ?_, fun r' hr => ?_⟩
          · match j, hj, hr with
            | 0, _, hr =>
              have hr : r' = r := hr
              rw [hr]; exact hm
            | j + 1, hj, ⟨o', h', hr⟩ =>
              rw [one o' h'] at hr
              exact j4 j (by omega) r' hr
          · obtain ⟨o', h', hr⟩ := hr
            rw [one o' h'] at hr
            exact j5 r' hr
    · refine ⟨(k : Int) + 1, M1, ?_, e4, Or.inr ⟨1, by omega, by omega, by omega, fun j hj r' hr => ?_, fun r' hr => ?_⟩⟩
      · unfold f_X9_movesIn_b35
        rw [if_pos (by omega), if_neg (by omega), e2, zbS, if_pos hv, a1, if_pos (by omega), if_pos h2v, if_neg c]
      · obtain rfl : j = 0 := by omega
        have hr : r' = r := hr
        rw [hr]; exact hm
      · obtain ⟨o', h', hr⟩ := hr
        rw [one o' h'] at hr
        have hr : r' = dayF o N Nw r := hr
        rw [hr]; exact c
/-- what movesIn tells of a shard: none within 60 days, or the day of its next move -/
def FT (N Nw : Nat) (r : Row) (h x : Int) : Prop :=
  (x = -5 ∧ ∀ j : Nat, j ≤ 60 → ∀ r', Days N Nw j r r' → r' (448 + h).toNat = r (448 + h).toNat ∧ r' (416 + h).toNat = r (416 + h).toNat) ∨
  ((1 ≤ x ∧ x ≤ 60) ∧ (∀ j : Nat, (j : Int) < x → ∀ r', Days N Nw j r r' → r' (448 + h).toNat = r (448 + h).toNat ∧ r' (416 + h).toNat = r (416 + h).toNat) ∧ ∀ j : Nat, (j : Int) = x → ∀ r', Days N Nw j r r' → r' (448 + h).toNat = r (448 + h).toNat + 1 ∧ r' (416 + h).toNat ≠ r (416 + h).toNat)
theorem q_movesIn {B : Int} {M : Mem} {r : Row} (I : Inv B M r) (hB : B ≤ 2147480000) {N Nw : Nat} (hN : r 863 = N) (hW : r 864 = Nw) {h : Int} (hh : 0 ≤ h ∧ h < 16) : ∃ x M', f_X9_movesIn h M = some (x, M') ∧ Kp 30 29 M M' ∧ FT N Nw r h x := by
  have hS := I.2.1.1
  have W := I.2.1.2.1
  have hd := I.2.1.2.2.1
  have hw := WF1_nw W.1
  have h3 : Nw ≤ 3 := by omega
  have hb := WF1_mov W.1 hh.1 hh.2
  obtain ⟨M1, c1, c2, c3⟩ := q_copy (k := 30) (k1 := 1) hS W.1 (by decide)
  have a1 : M1 46 h.toNat = enc false (r (448 + h).toNat) := c2.1.moves hh.1 hh.2
  simp only [enc, Bool.false_eq_true, if_false] at a1
  obtain ⟨x, M', i1, i2, i3⟩ := q_moves_l h3 hh (v2 := r (448 + h).toNat) (by omega) 60 0 100000 B M1 r r rfl (by decide) c2 W W hN hW (fun _ _ => rfl) (by omega) (by omega) rfl
  refine ⟨x, M', ?_, Kp_tr (Kp_mo c3 (by decide)) i2, ?_⟩
  · unfold f_X9_movesIn
    rw [q_isShard (by omega), zbS, bitR, bit0, if_pos hh, c1, zbS, if_pos hh, zltS, a1]
    exact i1
  · have both : ∀ (j : Nat) (r' : Row), j ≤ 60 → Days N Nw j r r' → r' (448 + h).toNat = r (448 + h).toNat → r' (448 + h).toNat = r (448 + h).toNat ∧ r' (416 + h).toNat = r (416 + h).toNat := fun j r' hj hr e =>
      ⟨e, (days_y h3 hh j B r r' W hN hW (by omega) hr).2.1 e⟩
    rcases i3 with ⟨j1, j2⟩ | ⟨m, j1, j2, j3, j4, j5⟩
    · exact Or.inl ⟨j1, fun j hj r' hr => both j r' hj hr (j2 j hj r' hr)⟩
    · refine Or.inr ⟨⟨by omega, by omega⟩, fun j hj r' hr => both j r' (by omega) hr (j4 j (by omega) r' hr), fun j hj r' hr => ?_⟩
      obtain rfl : j = m := by omega
      have h5 := j5 r' hr
      obtain ⟨t, rfl⟩ : ∃ t, j = t + 1 := ⟨j - 1, by omega⟩
      obtain ⟨a, o, g1, g2, g3⟩ := Days_last t r r' hr
      have b1 := both t a (by omega) g1 (j4 t (by omega) a g1)
      obtain ⟨-, -, w1, w2, w3, w4⟩ := days_y h3 hh t B r a W hN hW (by omega) g1
      have hy := day_y w1 w2 h3 g2 hh
      rw [← g3] at hy
      rcases hy with ⟨y1, y2⟩ | ⟨y1, y2⟩
      · exact absurd (by omega) h5
      · exact ⟨by omega, by rw [← b1.2]; exact y2⟩

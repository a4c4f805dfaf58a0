/-! the law's own walk, over the class as its rows have it -/
theorem law_end {B : Int} {M : Mem} {r : Row} (I : Inv B M r) (hB : B ≤ 2000000) (h1 : 1 ≤ r 865) (xs : Nat → Int) (L F : Nat) : ∃ M', f_L_law_b104 xs L (F + 1) 24 M = some (1, M') := by
  have W := I.2.1.2.1
  obtain ⟨a, ha⟩ := q_all W
  obtain ⟨M1, k1, I1, S1⟩ := q_keep I
  obtain ⟨x2, M2, r2, p1, p2, I2, -, -, -, -, k2⟩ := a_pass (v1 := 3) (c := 3) (by decide) (by decide) B M1 r I1 (by omega)
  have S2 : Snap (B + 1000) M2 r := Snap_to S1 (by omega) k2
  obtain ⟨x3, M3, r3, q1, q2, I3, -, -, -, -, k3⟩ := a_request (v1 := 0) (v2 := 5) (by decide) (by decide) (B + 1000) M2 r2 I2 (by omega)
  have S3 : Snap (B + 1000 + 1000) M3 r := Snap_to S2 (by omega) k3
  obtain ⟨M4, e1, I4, S4, T4⟩ := q_restore I3 S3
  obtain ⟨x5, M5, u1, u2, I5, k5⟩ := q_undo I4 T4
  have S5 := Snap_to S4 (Int.le_refl _) k5
  obtain ⟨M6, g1, I6, -, -⟩ := q_restore I5 S5
  have hday := WF1_day W.1
  have hn := WF1_n W.1
  have W6 := I6.2.1.2.1
  have Z6 := I6.2.1.1
  refine ⟨M6, ?_⟩
  unfold f_L_law_b104 f_L_law_b426
  rw [if_pos (by decide), if_pos (by decide), ha M I.2.1.1, zbS, k1, zbS, t_count I1.2.1.1 W (by decide), zbS, show cnV r 0 = r 862 from rfl, if_pos (Or.inl rfl), if_pos rfl, p1, zbS, q1, zbS, e1, zbS, t_count I4.2.1.1 I4.2.1.2.1 (by decide), zbS, show cnV r 0 = r 862 from rfl, if_pos (Or.inl rfl), if_pos rfl, ha M4 I4.2.1.1, zbS, zcmp_rf, if_pos (by decide), if_pos rfl, u1, zbS, if_pos (by omega), if_neg (by omega), g1, zbS, if_pos (by omega), if_neg (by omega), ha M6 Z6, zbS, zcmp_rf, if_pos (by decide), if_pos rfl]
  rw [t_value_no, zbS, if_pos (by decide), if_pos rfl, t_shard_no, zbS, if_pos (by decide), if_pos rfl, t_shard Z6 W6 (by decide) (by decide), zbS, show shV r 0 7 = -2 from rfl, if_pos (by decide), if_pos rfl, t_pasture_no Z6 W6, zbS, if_pos (by decide), if_pos rfl, t_pasture Z6 W6 (v1 := 0) ⟨by decide, by omega⟩ (by decide), zbS, show paV r 0 9 = -2 from rfl, if_pos (by decide), if_pos rfl, t_count_no, zbS, if_pos (by decide), if_pos rfl, t_remembered_no Z6 W6 h1, zbS, if_pos (by decide), if_pos rfl, t_way_no Z6 W6 h1, zbS, if_pos (by decide), if_pos rfl, t_movesIn_no, zbS, if_pos (by decide), if_pos rfl]
theorem law_213 {xs : Nat → Int} {L : Nat} {g : Int → Mem → Option (Int × Mem)} {v : Nat} (hv : v ≤ 24) (y : Int) (hg : ∀ (B : Int) (M : Mem) (r : Row), Inv B M r → B ≤ 1000000 + 4000 * ((v : Int) + 1) → r 862 ≤ 5 * ((v : Int) + 1) → 1 ≤ r 865 → ∃ M', g ((v : Int) + 1) M = some (1, M')) {B : Int} {M : Mem} {r : Row} (I : Inv B M r) (hB : B ≤ 1000000 + 4000 * (v : Int) + 2000) (hd : r 862 ≤ 5 * ((v : Int) + 1)) (h1 : 1 ≤ r 865) : ∃ M', f_L_law_b213 g xs L v y M = some (1, M') := by
  have et : ((v : Int)).tmod 12 = (v : Int) % 12 := Int.tmod_eq_emod_of_nonneg (by omega)
  unfold f_L_law_b213 f_L_law_b235
  rw [if_pos (by omega), et, if_pos (by omega)]
  by_cases c : (v : Int) % 12 = 5
  · obtain ⟨M1, f1, I1⟩ := q_isForetold I (by omega) (by omega) (ishr y 5)
    obtain ⟨M', e⟩ := hg (B + 2000) M1 r I1 (by omega) hd h1
    refine ⟨M', ?_⟩
    rw [if_pos c, f1, zbS, if_pos (by decide), if_neg (by decide)]
    exact e
  · obtain ⟨M', e⟩ := hg B M r I (by omega) hd h1
    refine ⟨M', ?_⟩
    rw [if_neg c]
    exact e
theorem law_186 {xs : Nat → Int} {L : Nat} {g : Int → Mem → Option (Int × Mem)} {v : Nat} (hv : v ≤ 24) (y : Int) (hg : ∀ (B : Int) (M : Mem) (r : Row), Inv B M r → B ≤ 1000000 + 4000 * ((v : Int) + 1) → r 862 ≤ 5 * ((v : Int) + 1) → 1 ≤ r 865 → ∃ M', g ((v : Int) + 1) M = some (1, M')) {B : Int} {M : Mem} {r : Row} (I : Inv B M r) (hB : B ≤ 1000000 + 4000 * (v : Int) + 1000) (hd : r 862 ≤ 5 * ((v : Int) + 1)) (h1 : 1 ≤ r 865) : ∃ M', f_L_law_b186 g xs L v y M = some (1, M') := by
  have et : ((v : Int)).tmod 4 = (v : Int) % 4 := Int.tmod_eq_emod_of_nonneg (by omega)
  unfold f_L_law_b186
  rw [if_pos (by omega), et, if_pos (by omega)]
  by_cases c : (v : Int) % 4 = 2
  · obtain ⟨M1, f1, I1⟩ := q_isReached I h1 (ishr y 7)
    obtain ⟨M', e⟩ := law_213 (xs := xs) (L := L) hv y hg I1 (by omega) hd h1
    refine ⟨M', ?_⟩
    rw [if_pos c, q_isSound I, zbS, if_pos (by decide), if_neg (by decide), f1, zbS, if_pos (by decide), if_neg (by decide)]
    exact e
  · obtain ⟨M', e⟩ := law_213 (xs := xs) (L := L) hv y hg I (by omega) hd h1
    refine ⟨M', ?_⟩
    rw [if_neg c]
    exact e
theorem law_104 (xs : Nat → Int) (L : Nat) : ∀ (d v F : Nat) (B : Int) (M : Mem) (r : Row), v + d = 24 → d < F → Inv B M r → B ≤ 1000000 + 4000 * (v : Int) → r 862 ≤ 5 * (v : Int) → 1 ≤ r 865 → ∃ M', f_L_law_b104 xs L F v M = some (1, M') := by
  intro d
  induction d with
  | zero =>
    intro v F B M r h1 h2 I hB hd hr
    obtain ⟨F, rfl⟩ : ∃ k, F = k + 1 := ⟨F - 1, by omega⟩
    obtain rfl : v = 24 := by omega
    exact law_end I (by omega) hr xs L F
  | succ d ih =>
    intro v F B M r h1 h2 I hB hd hr
    obtain ⟨F, rfl⟩ : ∃ k, F = k + 1 := ⟨F - 1, by omega⟩
    have hg : ∀ (B : Int) (M : Mem) (r : Row), Inv B M r → B ≤ 1000000 + 4000 * ((v : Int) + 1) → r 862 ≤ 5 * ((v : Int) + 1) → 1 ≤ r 865 → ∃ M', f_L_law_b104 xs L F ((v : Int) + 1) M = some (1, M') := by
      intro B M r a1 a2 a3 a4
      have h := ih (v + 1) F B M r (by omega) (by omega) a1 (by push_cast; exact a2) (by push_cast; exact a3) a4
      push_cast at h
      exact h
    obtain ⟨a, ha⟩ := q_all I.2.1.2.1
    obtain ⟨y, hy⟩ : ∃ y, y = zcell xs L (1 + (v : Int)) := ⟨_, rfl⟩
    obtain ⟨f, hA, hf⟩ := q_acts I y
    obtain ⟨x, M1, r1, e1, e2, I1, e3, e4, e5, e6, -⟩ := hA B M r I (by omega)
    rw [← hf] at e1
    unfold f_L_law_b104
    rw [if_pos (by omega), if_neg (by omega), if_pos (by omega), zltS, ← hy, ha M I.2.1.1, zbS, e1, zbS, if_pos e2]
    unfold f_L_law_b152
    by_cases c : 0 ≤ x
    · rw [if_pos c, if_pos e2, if_neg (by omega), if_pos (iand_in _ _)]
      by_cases c2 : iand (ishr y 28) 3 = 0
      · obtain ⟨z, M2, u1, u2, I2, -⟩ := q_undo I1 (e4 c)
        obtain ⟨M', e⟩ := law_186 (xs := xs) (L := L) (v := v) (by omega) y hg I2 (by omega) (by omega) hr
        refine ⟨M', ?_⟩
        rw [if_pos c2, u1, zbS, if_pos (by omega), if_neg (by omega), ha M2 I2.2.1.1, zbS, zcmp_rf, if_pos (by decide), if_pos rfl]
        exact e
      · obtain ⟨M', e⟩ := law_186 (xs := xs) (L := L) (v := v) (by omega) y hg I1 (by omega) (by omega) (by omega)
        refine ⟨M', ?_⟩
        rw [if_neg c2]
        exact e
    · have er := e3 (by omega)
      rw [er] at I1
      obtain ⟨M', e⟩ := law_186 (xs := xs) (L := L) (v := v) (by omega) y hg I1 (by omega) (by omega) hr
      refine ⟨M', ?_⟩
      rw [if_neg c, ha M1 I1.2.1.1, zbS, zcmp_rf, if_pos (by decide), if_pos rfl, if_pos e2, if_pos (by omega)]
      exact e
theorem law_25 (xs : Nat → Int) (L : Nat) {z : Int} {n : Nat} (hn : n ≤ 4) : ∀ (d v F : Nat) (B : Int) (M : Mem) (r : Row), v + d = n → d < F → Inv B M r → B ≤ 1000 * (v : Int) → r 862 ≤ 0 → ∃ M', f_L_law_b25 xs L F z n v M = some (1, M') := by
  intro d
  induction d with
  | zero =>
    intro v F B M r h1 h2 I hB hd
    obtain ⟨F, rfl⟩ : ∃ k, F = k + 1 := ⟨F - 1, by omega⟩
    obtain ⟨x1, M1, r1, e1, I1, e2, e3⟩ := reader0 I
    obtain ⟨x2, M2, r2, g1, g2, I2, -, -, g3, g4, -⟩ := a_addReader (v1 := (n : Int) - 1) ⟨by omega, by omega⟩ (B + 1000) M1 r1 I1 (by omega)
    obtain ⟨M', e⟩ := law_104 xs L 24 0 100000 (B + 1000 + 1000) M2 r2 rfl (by decide) I2 (by omega) (by omega) (by omega)
    refine ⟨M', ?_⟩
    unfold f_L_law_b25
    rw [if_pos (by omega), if_pos (by omega), if_pos (by omega), e1, zbS, g1, zbS]
    exact e
  | succ d ih =>
    intro v F B M r h1 h2 I hB hd
    obtain ⟨F, rfl⟩ : ∃ k, F = k + 1 := ⟨F - 1, by omega⟩
    obtain ⟨a, m1, ha⟩ := q_low (v := ishr z (2 + 5 * (v : Int))) (n := 91) (by decide) M
    obtain ⟨b, m2, hb⟩ := q_low (v := ishr z (4 + 4 * (v : Int))) (n := 16) (by decide) M
    have go : ∀ w : Int, w = 0 ∨ w = 1 → ∃ M', f_L_law_b77 (f_L_law_b25 xs L F) xs L z n v w (1 + b) a M = some (1, M') := by
      intro w hw
      obtain ⟨x1, M1, r1, e1, e2, I1, -, -, e3, e4, -⟩ := a_addPasture (v1 := a) (v2 := 1 + b) (v3 := w) ⟨by omega, by omega⟩ ⟨by omega, by omega⟩ hw B M r I (by omega)
      obtain ⟨M', e⟩ := ih (v + 1) F (B + 1000) M1 r1 (by omega) (by omega) I1 (by push_cast; omega) (by omega)
      push_cast at e
      refine ⟨M', ?_⟩
      unfold f_L_law_b77
      rw [e1, zbS]
      exact e
    unfold f_L_law_b25
    rw [if_pos (by omega), if_pos (by omega), if_neg (by omega), m1, zbS, m2, zbS, if_pos (iand_in _ _)]
    by_cases c : iand (ishr z (3 + (v : Int))) 1 = 1
    · rw [if_pos c]; exact go 1 (Or.inr rfl)
    · rw [if_neg c]; exact go 0 (Or.inl rfl)

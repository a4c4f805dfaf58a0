theorem Inv2_x {B B' : Int} {M Q M' Q' : Mem} (I : Inv2 B M Q) (hB : B ≤ B') (hM : ∀ x, x ≠ 210 → x ≠ 214 → M' x = M x) (hQ : Q' 216 = Q 216) (q1 : ∀ j, j = 1 ∨ j = 2 → Q' 215 j = Q 215 j) (X : XI M' Q') : Inv2 B' M' Q' := by
  obtain ⟨hB0, S1, ⟨h, o, a1, a2, a3, a4, a5, a6⟩, ⟨b1, b2⟩, -⟩ := I
  refine ⟨by omega, by rw [hQ]; exact SW_to S1 hB (fun x h1 h2 => hM x (by omega) (by omega)), ⟨h, o, by rw [hM 88 (by decide) (by decide)]; exact a1, by rw [hM 88 (by decide) (by decide)]; exact a2, a3, a4, by rw [q1 1 (by omega)]; exact a5, fun k hk => by rw [hQ]; exact SW_to (a6 k hk) hB (fun x h1 h2 => hM x (by omega) (by omega))⟩, ⟨by rw [hM 0 (by decide) (by decide), q1 2 (by omega)]; exact b1, ?_⟩, X⟩
  rw [q1 2 (by omega), hQ]
  rcases b2 with b2 | ⟨b2, b3⟩
  · exact Or.inl b2
  · exact Or.inr ⟨b2, SW_to b3 hB (fun x h1 h2 => hM x (by omega) (by omega))⟩
theorem c_clearText : CallOK f_X9_clearText f_X10_clearText := by
  intro B M Q I hB
  obtain ⟨n, c, T, U⟩ := I.2.2.2.2
  refine ⟨(n : Int), wr M 210 0 0, wr Q 215 4 0, ?_, ?_, ?_, fun y hy => wr_ne (by omega), fun y hy => wr_ne (by omega)⟩
  · unfold f_X9_clearText
    rw [zltS, zltS, T.1]
  · unfold f_X10_clearText
    rw [zltS, zltS, U.1]
  · refine Inv2_x I (by omega) (fun x h1 _ => wr_ne h1) (wr_ne (by decide)) (fun j hj => by rw [wr_eq, up_ne (by omega)]) ⟨0, c, ⟨by rw [wr_eq, up_eq]; rfl, by decide, fun j hj => by rw [wr_ne (by decide)]; exact T.2.2.1 j hj, T.2.2.2⟩, ⟨by rw [wr_eq, up_eq]; rfl, by decide, fun j hj => by rw [wr_ne (by decide)]; exact U.2.2.1 j hj, U.2.2.2⟩⟩
theorem c_type {v1 : Int} (hv : 0 ≤ v1 ∧ v1 ≤ 65535) : CallOK (f_X9_type v1) (f_X10_type v1) := by
  intro B M Q I hB
  obtain ⟨n, c, T, U⟩ := I.2.2.2.2
  have hn := T.2.1
  by_cases c1 : n < 60
  · have hcn : ∀ j, up c n v1 j = if j = n then v1 else c j := fun j => rfl
    refine ⟨(n : Int) + 1, wr (wr M 214 n v1) 210 0 ((n : Int) + 1), wr (wr Q 217 n v1) 215 4 ((n : Int) + 1), ?_, ?_, ?_, fun y hy => by rw [wr_ne (by omega), wr_ne (by omega)], fun y hy => by rw [wr_ne (by omega), wr_ne (by omega)]⟩
    · unfold f_X9_type f_X5_append f_X5_append_b29
      rw [T.1, if_pos (by omega), if_pos (by omega), if_pos (by omega), if_neg (by omega), if_pos (by omega), if_pos (by omega), zltS, zltS, wr_ne (show 210 ≠ 214 by decide), T.1, zbS, show (n : Int).toNat = n from rfl, wr_eq, up_eq]
    · unfold f_X10_type
      rw [U.1, if_pos (by omega), if_neg (by omega), if_pos (by omega), zltS, zltS, wr_ne (show 215 ≠ 217 by decide), U.1, show (n : Int).toNat = n from rfl, wr_eq, up_eq]
    · refine Inv2_x I (by omega) (fun x h1 h2 => by rw [wr_ne h1, wr_ne h2]) (by rw [wr_ne (by decide), wr_ne (by decide)]) (fun j hj => by rw [wr_eq, up_ne (by omega), wr_ne (by decide)]) ⟨n + 1, up c n v1, ⟨by rw [wr_eq, up_eq]; rfl, by omega, fun j hj => ?_, fun j hj => ?_⟩, ⟨by rw [wr_eq, up_eq]; rfl, by omega, fun j hj => ?_, fun j hj => ?_⟩⟩
      · rw [wr_ne (by decide), wr_eq]
        by_cases e : j = n
        · rw [e, up_eq, up_eq]
        · rw [up_ne e, up_ne e]; exact T.2.2.1 j hj
      · by_cases e : j = n
        · rw [e, up_eq]; exact hv
        · rw [up_ne e]; exact T.2.2.2 j hj
      · rw [wr_ne (by decide), wr_eq]
        by_cases e : j = n
        · rw [e, up_eq, up_eq]
        · rw [up_ne e, up_ne e]; exact U.2.2.1 j hj
      · by_cases e : j = n
        · rw [e, up_eq]; exact hv
        · rw [up_ne e]; exact U.2.2.2 j hj
  · refine call_no I (x := -3) ?_ ?_
    · unfold f_X9_type
      rw [T.1, if_pos (by omega), if_neg (by omega)]
    · unfold f_X10_type
      rw [U.1, if_pos (by omega), if_pos (by omega)]
theorem c_undo : CallOK f_X9_undo f_X10_undo := by
  intro B M Q I hB
  have I0 := I
  obtain ⟨hB0, S1, ⟨h, o, a1, a2, a3, a4, a5, a6⟩, ⟨b1, b2⟩, X⟩ := I
  by_cases c1 : h = 0
  · refine call_no I0 (x := -5) ?_ ?_
    · unfold f_X9_undo
      rw [a1, if_pos (by omega), if_neg (by omega)]
    · unfold f_X10_undo
      rw [a5, if_pos (by omega), if_pos (by omega)]
  · obtain ⟨g, rfl⟩ : ∃ g, h = g + 1 := ⟨h - 1, by omega⟩
    have old := a6 g (by omega)
    have hi4 : (o + g) % 4 < 4 := by omega
    have kw : ∀ x, x ≠ 88 → wr M 88 0 (g : Int) x = M x := fun x hx => wr_ne hx
    have old2 : SW B (wr M 88 0 (g : Int)) (90 + 29 * ((o + g) % 4)) (seg (Q 216) (871 * (g + 1))) := SW_to old (Int.le_refl _) (fun x h1 h2 => kw x (by omega))
    obtain ⟨M', i1, i2, i3⟩ := q_copy (k := 1) (k1 := 90 + 29 * ((o + g) % 4)) old2.1 old2.2.1.1 (by omega)
    have j1 := p_copy (M := wr Q 215 1 (g : Int)) (x := 871 * (g + 1)) (c := 0) (by omega) (by decide) (by omega)
    rw [wr_ne (show 216 ≠ 215 by decide)] at j1
    have ht := tmod4 o g
    have e88 : wr M 88 0 (g : Int) 88 0 = (g : Int) := by rw [wr_eq, up_eq]
    have e881 : wr M 88 0 (g : Int) 88 1 = (o : Int) := by rw [wr_eq, up_ne (by decide)]; exact a2
    have row : ∀ j, j < 871 → cpR (Q 216) (871 * (g + 1)) 0 871 j = seg (Q 216) (871 * (g + 1)) j := fun j hj => by
      unfold cpR seg
      rw [if_pos (by omega), Nat.sub_zero]
    have row2 : ∀ j, 871 ≤ j → cpR (Q 216) (871 * (g + 1)) 0 871 j = Q 216 j := fun j hj => by
      unfold cpR
      rw [if_neg (by omega)]
    have q215 : ∀ j, j ≠ 1 → (ml (wr Q 215 1 (g : Int)) 216 (cpR (Q 216) (871 * (g + 1)) 0 871)) 215 j = Q 215 j := fun j hj => by rw [ml_ne (by decide), wr_eq, up_ne hj]
    refine ⟨(g : Int), M', ml (wr Q 215 1 (g : Int)) 216 (cpR (Q 216) (871 * (g + 1)) 0 871), ?_, ?_, ?_, fun y hy => by rw [i3 y (by omega), kw y (by omega)], fun y hy => by rw [ml_ne (by omega), wr_ne (by omega)]⟩
    · unfold f_X9_undo f_X1_takeBack f_X1_takeBack_b37
      rw [a1, if_pos (by omega), if_pos (by omega), if_pos (by omega), if_neg (by omega), zltS, show ((g + 1 : Nat) : Int) - 1 = (g : Int) by omega, e88, e881, ht, if_pos (by omega), if_pos (by omega), show (((o + g) % 4 : Nat) : Int).toNat = (o + g) % 4 from rfl, i1, zbS, zbS, i3 88 (by omega), e88]
    · unfold f_X10_undo
      have e1 : wr Q 215 1 (g : Int) 215 1 = (g : Int) := by rw [wr_eq, up_eq]
      rw [a5, if_pos (by omega), if_neg (by omega), zltS, show ((g + 1 : Nat) : Int) - 1 = (g : Int) by omega, e1, show (871 : Int) + 871 * (g : Int) = ((871 * (g + 1) : Nat) : Int) by omega, show (0 : Int) = ((0 : Nat) : Int) from rfl, j1, zbS, ml_ne (show 215 ≠ 216 by decide), e1]
    · refine ⟨by omega, ?_, ⟨g, o, by rw [i3 88 (by omega)]; exact e88, by rw [i3 88 (by omega)]; exact e881, by omega, a4, by rw [ml_ne (by decide), wr_eq, up_eq], fun k hk => ?_⟩, ⟨by rw [i3 0 (by omega), kw 0 (by decide), q215 2 (by decide)]; exact b1, ?_⟩, XI_k X (by rw [i3 210 (by omega), kw 210 (by decide)]) (by rw [i3 214 (by omega), kw 214 (by decide)]) (q215 4 (by decide)) (by rw [ml_ne (by decide), wr_ne (by decide)])⟩
      · rw [ml_eq]
        exact SW_row (SW_to (⟨i2, old2.2.1, old2.2.2⟩ : SW B M' 1 _) (by omega) (fun _ _ _ => rfl)) row
      · rw [ml_eq]
        refine SW_row (SW_to (a6 k (by omega)) (by omega) (fun x h1 h2 => by rw [i3 x (by omega), kw x (by omega)])) (fun j hj => ?_)
        unfold seg
        exact row2 _ (by omega)
      · rw [q215 2 (by decide), ml_eq]
        rcases b2 with b2 | ⟨b2, b3⟩
        · exact Or.inl b2
        · refine Or.inr ⟨b2, SW_row (SW_to b3 (by omega) (fun x h1 h2 => by rw [i3 x (by omega), kw x (by omega)])) (fun j hj => ?_)⟩
          unfold seg
          exact row2 _ (by omega)
theorem c_keep : CallOK f_X9_keep f_X10_keep := by
  intro B M Q I hB
  obtain ⟨hB0, S1, ⟨h, o, a1, a2, a3, a4, a5, a6⟩, ⟨b1, b2⟩, X⟩ := I
  obtain ⟨M', i1, i2, i3⟩ := q_copy (k := 59) (k1 := 1) S1.1 S1.2.1.1 (by decide)
  have j1 := p_copy (M := Q) (x := 0) (c := 4355) (by decide) (by decide) (by decide)
  rw [show ((0 : Nat) : Int) = 0 from rfl, show ((4355 : Nat) : Int) = 4355 from rfl] at j1
  have low : ∀ j, j < 4355 → cpR (Q 216) 0 4355 871 j = Q 216 j := fun j hj => by
    unfold cpR
    rw [if_neg (by omega)]
  have kM : ∀ x, x ≠ 0 → (x < 59 ∨ 87 ≤ x) → wr M' 0 6 1 x = M x := fun x h0 h1 => by rw [wr_ne h0, i3 x (by omega)]
  have q216 : wr (ml Q 216 (cpR (Q 216) 0 4355 871)) 215 2 1 216 = cpR (Q 216) 0 4355 871 := by rw [wr_ne (by decide), ml_eq]
  have q215 : ∀ j, j ≠ 2 → wr (ml Q 216 (cpR (Q 216) 0 4355 871)) 215 2 1 215 j = Q 215 j := fun j hj => by rw [wr_eq, up_ne hj, ml_ne (by decide)]
  have hday : M 1 0 = Q 216 862 := S1.1.1.day
  refine ⟨Q 216 862, wr M' 0 6 1, wr (ml Q 216 (cpR (Q 216) 0 4355 871)) 215 2 1, ?_, ?_, ?_, fun y hy => kM y (by omega) (by omega), fun y hy => by rw [wr_ne (by omega), ml_ne (by omega)]⟩
  · unfold f_X9_keep
    rw [i1, zbS, zltS, kM 1 (by decide) (by omega), hday]
  · unfold f_X10_keep
    rw [j1, zbS, zltS, q216, low 862 (by decide)]
  · refine ⟨by omega, ?_, ⟨h, o, by rw [kM 88 (by decide) (by omega)]; exact a1, by rw [kM 88 (by decide) (by omega)]; exact a2, a3, a4, by rw [q215 1 (by decide)]; exact a5, fun k hk => ?_⟩, ⟨by rw [wr_eq, up_eq, wr_eq, up_eq], Or.inr ⟨by rw [wr_eq, up_eq], ?_⟩⟩, XI_k X (by rw [kM 210 (by decide) (by omega)]) (kM 214 (by decide) (by omega)) (q215 4 (by decide)) (by rw [wr_ne (by decide), ml_ne (by decide)])⟩
    · rw [q216]
      exact SW_row (SW_to S1 (by omega) (fun x h1 h2 => kM x (by omega) (by omega))) (fun j hj => low j (by omega))
    · rw [q216]
      refine SW_row (SW_to (a6 k hk) (by omega) (fun x h1 h2 => kM x (by omega) (by omega))) (fun j hj => ?_)
      unfold seg
      exact low _ (by omega)
    · rw [q216]
      refine SW_row (SW_to (⟨i2, S1.2.1, S1.2.2⟩ : SW B M' 59 (Q 216)) (by omega) (fun x h1 h2 => wr_ne (by omega))) (fun j hj => ?_)
      unfold seg cpR
      rw [if_pos (by omega), show 0 + (4355 + j - 4355) = j by omega]

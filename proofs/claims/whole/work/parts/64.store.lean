def Kc (M M' : Mem) : Prop := ∀ x, x < 88 ∨ 206 ≤ x → M' x = M x
def Km (Q Q' : Mem) : Prop := (∀ x, x ≠ 215 → x ≠ 216 → Q' x = Q x) ∧ ∀ j, j ≠ 1 → Q' 215 j = Q 215 j
theorem XI_k {M M' Q Q' : Mem} (h : XI M Q) (h1 : M' 210 0 = M 210 0) (h2 : M' 214 = M 214) (h3 : Q' 215 4 = Q 215 4) (h4 : Q' 217 = Q 217) : XI M' Q' := by
  obtain ⟨n, c, T, U⟩ := h
  exact ⟨n, c, ⟨by rw [h1]; exact T.1, T.2.1, fun j hj => by rw [h2]; exact T.2.2.1 j hj, T.2.2.2⟩, ⟨by rw [h3]; exact U.1, U.2.1, fun j hj => by rw [h4]; exact U.2.2.1 j hj, U.2.2.2⟩⟩
theorem tmod4 (x y : Nat) : ((x : Int) + (y : Int)).tmod 4 = (((x + y) % 4 : Nat) : Int) := by
  rw [Int.tmod_eq_emod_of_nonneg (by omega)]
  omega
/-- both sides lay the state down -/
theorem x_store {B : Int} {M Q : Mem} (I : Inv2 B M Q) : ∃ M' Q', f_X1_store 1 M = some (0, M') ∧ f_X10_record Q = some (0, Q') ∧ Inv2 B M' Q' ∧ (∀ j, j < 871 → Q' 216 j = Q 216 j) ∧ Kc M M' ∧ Km Q Q' := by
  obtain ⟨hB, S1, ⟨h, o, a1, a2, a3, a4, a5, a6⟩, ⟨b1, b2⟩, X⟩ := I
  obtain ⟨i0, hi0⟩ : ∃ i0 : Nat, i0 = (o + h) % 4 := ⟨_, rfl⟩
  have hi4 : i0 < 4 := by omega
  obtain ⟨M4, c1, c2, c3⟩ := q_copy (k := 90 + 29 * i0) (k1 := 1) S1.1 S1.2.1.1 (by omega)
  have ht := tmod4 o h
  rw [← hi0] at ht
  have e88 : M4 88 = M 88 := c3 88 (by omega)
  have hstore : f_X1_store 1 M = if (4 : Int) ≤ h then some (0, wr M4 88 1 (((o + 1) % 4 : Nat) : Int)) else some (0, wr M4 88 0 ((h : Int) + 1)) := by
    have ht1 := tmod4 o 1
    unfold f_X1_store f_X1_store_b53
    rw [a1, a2, ht, if_pos (by omega), if_pos (by omega), show ((i0 : Nat) : Int).toNat = i0 from rfl, c1, zbS, e88, a1, a2, if_pos (by omega)]
    by_cases c : (4 : Int) ≤ h
    · rw [if_pos c, if_pos c, if_pos (by omega), zltS, show (o : Int) + 1 = (o : Int) + ((1 : Nat) : Int) from rfl, ht1]
    · rw [if_neg c, if_neg c, zltS]
  by_cases c : (4 : Int) ≤ h
  · rw [if_pos c] at hstore
    have h4 : h = 4 := by omega
    subst h4
    obtain ⟨r', g1, g2, g3, g4, g5⟩ := p_rec4 (Q := Q) rfl a5
    have q216 : wr (ml (wr Q 215 1 3) 216 r') 215 1 4 216 = r' := by rw [wr_ne (by decide), ml_eq]
    have q215 : ∀ j, j ≠ 1 → wr (ml (wr Q 215 1 3) 216 r') 215 1 4 215 j = Q 215 j := fun j hj => by rw [wr_eq, up_ne hj, ml_ne (by decide), wr_eq, up_ne hj]
    have qx : ∀ x, x ≠ 215 → x ≠ 216 → wr (ml (wr Q 215 1 3) 216 r') 215 1 4 x = Q x := fun x h1 h2 => by rw [wr_ne h1, ml_ne h2, wr_ne h1]
    have kc : ∀ x, x ≠ 88 → (x < 90 + 29 * i0 ∨ 90 + 29 * i0 + 28 ≤ x) → wr M4 88 1 (((o + 1) % 4 : Nat) : Int) x = M x := fun x h1 h2 => by rw [wr_ne h1, c3 x h2]
    refine ⟨_, _, hstore, g1, ⟨hB, ?_, ⟨4, (o + 1) % 4, ?_, ?_, by omega, by omega, ?_, fun k hk => ?_⟩, ⟨?_, ?_⟩, ?_⟩, fun j hj => by rw [q216]; exact g2 j hj, fun x hx => kc x (by omega) (by omega), ⟨qx, q215⟩⟩
    · rw [q216]
      exact SW_row (SW_to S1 (Int.le_refl _) (fun x h1 h2 => kc x (by omega) (by omega))) g2
    · rw [wr_eq, up_ne (by decide), e88]; exact a1
    · rw [wr_eq, up_eq]
    · rw [wr_eq, up_eq]; rfl
    · rw [q216]
      by_cases hk3 : k = 3
      · subst hk3
        have ei : ((o + 1) % 4 + 3) % 4 = i0 := by omega
        rw [ei]
        refine ⟨?_, ?_, ?_⟩
        · refine ST_row (r := Q 216) ⟨ST0_to c2.1 (fun q hq _ => by rw [wr_ne (by omega)]) (fun _ _ => rfl), fun p p0 p1 => by rw [wr_ne (by omega)]; exact c2.2 p p0 p1⟩ (fun j hj => ?_)
          unfold seg
          rw [g5 _ (by omega) (by omega)]
          exact congrArg (Q 216) (by omega)
        · refine WF_row S1.2.1 (fun j hj => ?_)
          unfold seg
          rw [g5 _ (by omega) (by omega)]
          exact congrArg (Q 216) (by omega)
        · unfold seg
          rw [g5 _ (by omega) (by omega)]
          exact S1.2.2
      · have old := a6 (k + 1) (by omega)
        have ei : ((o + 1) % 4 + k) % 4 = (o + (k + 1)) % 4 := by omega
        rw [ei]
        refine SW_row (SW_to old (Int.le_refl _) (fun x h1 h2 => kc x (by omega) (by omega))) (fun j hj => ?_)
        unfold seg
        rw [g4 _ (by omega) (by omega)]
        exact congrArg (Q 216) (by omega)
    · rw [kc 0 (by decide) (by omega), q215 2 (by decide)]; exact b1
    · rw [q215 2 (by decide), q216]
      rcases b2 with b2 | ⟨b2, b3⟩
      · exact Or.inl b2
      · refine Or.inr ⟨b2, SW_row (SW_to b3 (Int.le_refl _) (fun x h1 h2 => kc x (by omega) (by omega))) (fun j hj => ?_)⟩
        unfold seg
        rw [g3 _ (by omega)]
    · exact XI_k X (by rw [kc 210 (by decide) (by omega)]) (kc 214 (by decide) (by omega)) (q215 4 (by decide)) (qx 217 (by decide) (by decide))
  · rw [if_neg c] at hstore
    obtain ⟨r', g1, g2, g3, g4⟩ := p_rec (Q := Q) rfl a5 (by omega)
    have q216 : wr (ml Q 216 r') 215 1 ((h : Int) + 1) 216 = r' := by rw [wr_ne (by decide), ml_eq]
    have q215 : ∀ j, j ≠ 1 → wr (ml Q 216 r') 215 1 ((h : Int) + 1) 215 j = Q 215 j := fun j hj => by rw [wr_eq, up_ne hj, ml_ne (by decide)]
    have qx : ∀ x, x ≠ 215 → x ≠ 216 → wr (ml Q 216 r') 215 1 ((h : Int) + 1) x = Q x := fun x h1 h2 => by rw [wr_ne h1, ml_ne h2]
    have kc : ∀ x, x ≠ 88 → (x < 90 + 29 * i0 ∨ 90 + 29 * i0 + 28 ≤ x) → wr M4 88 0 ((h : Int) + 1) x = M x := fun x h1 h2 => by rw [wr_ne h1, c3 x h2]
    refine ⟨_, _, hstore, g1, ⟨hB, ?_, ⟨h + 1, o, ?_, ?_, by omega, a4, ?_, fun k hk => ?_⟩, ⟨?_, ?_⟩, ?_⟩, fun j hj => by rw [q216]; exact g2 j (by omega), fun x hx => kc x (by omega) (by omega), ⟨qx, q215⟩⟩
    · rw [q216]
      exact SW_row (SW_to S1 (Int.le_refl _) (fun x h1 h2 => kc x (by omega) (by omega))) (fun j hj => g2 j (by omega))
    · rw [wr_eq, up_eq]; rfl
    · rw [wr_eq, up_ne (by decide), e88]; exact a2
    · rw [wr_eq, up_eq]; rfl
    · rw [q216]
      by_cases hk3 : k = h
      · subst hk3
        rw [← hi0]
        refine ⟨?_, ?_, ?_⟩
        · exact ST_row (r := Q 216) ⟨ST0_to c2.1 (fun q hq _ => by rw [wr_ne (by omega)]) (fun _ _ => rfl), fun p p0 p1 => by rw [wr_ne (by omega)]; exact c2.2 p p0 p1⟩ (fun j hj => g4 j hj)
        · exact WF_row S1.2.1 (fun j hj => g4 j hj)
        · have e := g4 862 (by decide)
          unfold seg
          rw [e]
          exact S1.2.2
      · have old := a6 k (by omega)
        refine SW_row (SW_to old (Int.le_refl _) (fun x h1 h2 => kc x (by omega) (by omega))) (fun j hj => ?_)
        unfold seg
        exact g2 _ (by omega)
    · rw [kc 0 (by decide) (by omega), q215 2 (by decide)]; exact b1
    · rw [q215 2 (by decide), q216]
      rcases b2 with b2 | ⟨b2, b3⟩
      · exact Or.inl b2
      · refine Or.inr ⟨b2, SW_row (SW_to b3 (Int.le_refl _) (fun x h1 h2 => kc x (by omega) (by omega))) (fun j hj => ?_)⟩
        unfold seg
        exact g3 _ (by omega)
    · exact XI_k X (by rw [kc 210 (by decide) (by omega)]) (kc 214 (by decide) (by omega)) (q215 4 (by decide)) (qx 217 (by decide) (by decide))

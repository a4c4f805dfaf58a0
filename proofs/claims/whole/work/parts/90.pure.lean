theorem law_step {f g : Mem → Option (Int × Mem)} (h : CallOK f g) {B : Int} {M : Mem} (I : Inv2 B M M) (hB : B ≤ 2147480000) : ∃ x M1 M2, f M = some (x, M1) ∧ g M1 = some (x, M2) ∧ Inv2 (B + 1000) M2 M2 := by
  obtain ⟨x, M1, Q1, e1, e2, I1, k1, k2⟩ := h B M M I hB
  have I2 : Inv2 B M M1 := Inv2_x I (Int.le_refl _) (fun _ _ _ => rfl) (k1 216 (by decide)) (fun j _ => by rw [k1 215 (by decide)]) (XI_k I.2.2.2.2 rfl rfl (by rw [k1 215 (by decide)]) (k1 217 (by decide)))
  obtain ⟨x2, M3, Q2, f1, f2, I3, k3, k4⟩ := h B M M1 I2 hB
  rw [e1] at f1
  obtain ⟨rfl, rfl⟩ : x = x2 ∧ M1 = M3 := by
    injection f1 with f3
    injection f3 with f4 f5
    exact ⟨f4, f5⟩
  exact ⟨x, M1, Q2, e1, f2, Inv2_op I3 (Int.le_refl _) (SW_to I3.2.1 (Int.le_refl _) (fun y h1 h2 => k4 y (by omega))).1 I3.2.1.2.1 I3.2.1.2.2 rfl (fun _ _ _ => rfl) (fun y hy => k4 y (by omega)) (by rw [k4 210 (by decide)]) (fun _ _ => rfl) rfl⟩
theorem law_one {f g : Mem → Option (Int × Mem)} (h : CallOK f g) {B : Int} {M : Mem} (I : Inv2 B M M) (hB : B ≤ 2147480000) {K : Mem → Option (Int × Mem)} (hK : ∀ M2, Inv2 (B + 1000) M2 M2 → ∃ M', K M2 = some (1, M')) : ∃ M', (zbnd (f M) fun r M1 => zbnd (g M1) fun r' M2 => if r = r' ∨ (inR r ∧ inR r') then (if r = r' then K M2 else some (0, M2)) else none) = some (1, M') := by
  obtain ⟨x, M1, M2, e1, e2, I2⟩ := law_step h I hB
  obtain ⟨M', e3⟩ := hK M2 I2
  exact ⟨M', by rw [e1, zbS, e2, zbS, if_pos (Or.inl rfl), if_pos rfl]; exact e3⟩
theorem iand_in (x y : Int) : inR (iand x y) := zI_in _
set_option maxRecDepth 20000 in
theorem law_loop {xs : Nat → Int} {L : Nat} (hL : L ≤ 2048) (hx : ∀ j, inR (xs j)) : ∀ (d v F : Nat) (M : Mem), L ≤ v + d → v ≤ 2048 → d < F → Inv2 (250 * (v : Int)) M M → ∃ M', f_L_law_b18 xs L F v M = some (1, M') := by
  intro d
  induction d with
  | zero =>
    intro v F M h1 hv h2 I
    obtain ⟨F, rfl⟩ : ∃ k, F = k + 1 := ⟨F - 1, by omega⟩
    unfold f_L_law_b18
    exact ⟨M, by rw [if_pos (by omega), if_pos (by omega), if_pos (by omega)]⟩
  | succ d ih =>
    intro v F M h1 hv h2 I
    obtain ⟨F, rfl⟩ : ∃ k, F = k + 1 := ⟨F - 1, by omega⟩
    unfold f_L_law_b18
    by_cases hend : (L : Int) - 4 < (v : Int)
    · exact ⟨M, by rw [if_pos (by omega), if_pos (by omega), if_pos hend]⟩
    have hB : 250 * (v : Int) ≤ 2147480000 := by omega
    have q0 : 0 ≤ (v : Int) ∧ (v : Int) < (L : Int) := by omega
    have q1 : 0 ≤ (v : Int) + 1 ∧ (v : Int) + 1 < (L : Int) := by omega
    have q2 : 0 ≤ (v : Int) + 2 ∧ (v : Int) + 2 < (L : Int) := by omega
    have q3 : 0 ≤ (v : Int) + 3 ∧ (v : Int) + 3 < (L : Int) := by omega
    have hK : ∀ M2, Inv2 (250 * (v : Int) + 1000) M2 M2 → ∃ M', f_L_law_b1032 (f_L_law_b18 xs L F) xs L (v : Int) M2 = some (1, M') := fun M2 I2 => by
      unfold f_L_law_b1032
      exact ih (v + 4) F M2 (by omega) (by omega) (by omega) (by
        rw [show 250 * ((v + 4 : Nat) : Int) = 250 * (v : Int) + 1000 by omega]
        exact I2)
    have x1 := hx ((v : Int) + 1).toNat
    have x2 := hx ((v : Int) + 2).toNat
    have x3 := hx ((v : Int) + 3).toNat
    rw [if_pos (by omega), if_pos (by omega), if_neg hend, if_pos q0, if_pos (iand_in _ _)]
    by_cases e0 : iand (xs (v : Int).toNat) 31 = 0
    · rw [if_pos e0, if_pos q1, if_pos q2, if_pos q3, if_pos x3]
      unfold f_L_law_b192 f_L_law_b219
      by_cases z : xs ((v : Int) + 3).toNat = 0
      · rw [if_pos z]
        simp only [if_pos q1, if_pos q2, if_pos q3, if_pos x3, if_pos z]
        exact law_one (c_addPasture x1 x2 (Or.inl rfl)) I hB hK
      · rw [if_neg z]
        simp only [if_pos q1, if_pos q2, if_pos q3, if_pos x3, if_neg z]
        exact law_one (c_addPasture x1 x2 (Or.inr rfl)) I hB hK
    rw [if_neg e0]
    by_cases e1 : iand (xs (v : Int).toNat) 31 = 1
    · rw [if_pos e1, if_pos q1, if_pos q2]
      exact law_one (c_setRoom x1 x2) I hB hK
    rw [if_neg e1]
    by_cases e2 : iand (xs (v : Int).toNat) 31 = 2
    · rw [if_pos e2, if_pos q1, if_pos q2, if_pos x2]
      unfold f_L_law_b279 f_L_law_b301
      by_cases z : xs ((v : Int) + 2).toNat = 0
      · rw [if_pos z]
        simp only [if_pos q1, if_pos q2, if_pos x2, if_pos z]
        exact law_one (c_setInn x1 (Or.inl rfl)) I hB hK
      · rw [if_neg z]
        simp only [if_pos q1, if_pos q2, if_pos x2, if_neg z]
        exact law_one (c_setInn x1 (Or.inr rfl)) I hB hK
    rw [if_neg e2]
    by_cases e3 : iand (xs (v : Int).toNat) 31 = 3
    · rw [if_pos e3, if_pos q1, if_pos q2]
      exact law_one (c_addWolf x1 x2) I hB hK
    rw [if_neg e3]
    by_cases e4 : iand (xs (v : Int).toNat) 31 = 4
    · rw [if_pos e4]
      exact law_one (c_driveWolf) I hB hK
    rw [if_neg e4]
    by_cases e5 : iand (xs (v : Int).toNat) 31 = 5
    · rw [if_pos e5, if_pos q1]
      exact law_one (c_addReader x1) I hB hK
    rw [if_neg e5]
    by_cases e6 : iand (xs (v : Int).toNat) 31 = 6
    · rw [if_pos e6, if_pos q1, if_pos q2]
      exact law_one (c_setSeason x1 x2) I hB hK
    rw [if_neg e6]
    by_cases e7 : iand (xs (v : Int).toNat) 31 = 7
    · rw [if_pos e7, if_pos q1, if_pos q2]
      exact law_one (c_set x1 x2) I hB hK
    rw [if_neg e7]
    by_cases e8 : iand (xs (v : Int).toNat) 31 = 8
    · rw [if_pos e8, if_pos q1]
      exact law_one (c_pass x1) I hB hK
    rw [if_neg e8]
    by_cases e9 : iand (xs (v : Int).toNat) 31 = 9
    · rw [if_pos e9, if_pos q1, if_pos q2]
      exact law_one (c_move x1 x2) I hB hK
    rw [if_neg e9]
    by_cases e10 : iand (xs (v : Int).toNat) 31 = 10
    · rw [if_pos e10]
      exact law_one (c_post) I hB hK
    rw [if_neg e10]
    by_cases e11 : iand (xs (v : Int).toNat) 31 = 11
    · rw [if_pos e11, if_pos q1]
      exact law_one (c_cut x1) I hB hK
    rw [if_neg e11]
    by_cases e12 : iand (xs (v : Int).toNat) 31 = 12
    · rw [if_pos e12, if_pos q1, if_pos q2]
      exact law_one (c_request x1 x2) I hB hK
    rw [if_neg e12]
    by_cases e13 : iand (xs (v : Int).toNat) 31 = 13
    · rw [if_pos e13, if_pos q1, if_pos q2, if_pos q3]
      exact law_one (c_write x1 x2 x3) I hB hK
    rw [if_neg e13]
    by_cases e14 : iand (xs (v : Int).toNat) 31 = 14
    · rw [if_pos e14, if_pos q1, if_pos x1]
      exact law_one (c_type (by omega)) I hB hK
    rw [if_neg e14]
    by_cases e15 : iand (xs (v : Int).toNat) 31 = 15
    · rw [if_pos e15]
      exact law_one (c_clearText) I hB hK
    rw [if_neg e15]
    by_cases e16 : iand (xs (v : Int).toNat) 31 = 16
    · rw [if_pos e16]
      exact law_one (c_readRequests) I hB hK
    rw [if_neg e16]
    by_cases e17 : iand (xs (v : Int).toNat) 31 = 17
    · rw [if_pos e17]
      exact law_one (c_undo) I hB hK
    rw [if_neg e17]
    by_cases e18 : iand (xs (v : Int).toNat) 31 = 18
    · rw [if_pos e18]
      exact law_one (c_keep) I hB hK
    rw [if_neg e18]
    by_cases e19 : iand (xs (v : Int).toNat) 31 = 19
    · rw [if_pos e19]
      exact law_one (c_restore) I hB hK
    rw [if_neg e19]
    by_cases e20 : iand (xs (v : Int).toNat) 31 = 20
    · rw [if_pos e20, if_pos q1, if_pos q2]
      exact law_one (c_pasture x1 x2) I hB hK
    rw [if_neg e20]
    by_cases e21 : iand (xs (v : Int).toNat) 31 = 21
    · rw [if_pos e21, if_pos q1, if_pos q2, if_pos q3]
      exact law_one (c_track x1 x2 x3) I hB hK
    rw [if_neg e21]
    by_cases e22 : iand (xs (v : Int).toNat) 31 = 22
    · rw [if_pos e22, if_pos q1, if_pos q2]
      exact law_one (c_shard x1 x2) I hB hK
    rw [if_neg e22]
    by_cases e23 : iand (xs (v : Int).toNat) 31 = 23
    · rw [if_pos e23, if_pos q1]
      exact law_one (c_value x1) I hB hK
    rw [if_neg e23]
    by_cases e24 : iand (xs (v : Int).toNat) 31 = 24
    · rw [if_pos e24, if_pos q1, if_pos q2]
      exact law_one (c_reader x1 x2) I hB hK
    rw [if_neg e24]
    by_cases e25 : iand (xs (v : Int).toNat) 31 = 25
    · rw [if_pos e25, if_pos q1, if_pos q2]
      exact law_one (c_remembered x1 x2) I hB hK
    rw [if_neg e25]
    by_cases e26 : iand (xs (v : Int).toNat) 31 = 26
    · rw [if_pos e26, if_pos q1, if_pos q2, if_pos q3]
      exact law_one (c_reach x1 x2 x3) I hB hK
    rw [if_neg e26]
    by_cases e27 : iand (xs (v : Int).toNat) 31 = 27
    · rw [if_pos e27, if_pos q1, if_pos q2, if_pos q3]
      exact law_one (c_way x1 x2 x3) I hB hK
    rw [if_neg e27]
    by_cases e28 : iand (xs (v : Int).toNat) 31 = 28
    · rw [if_pos e28, if_pos q1]
      exact law_one (c_movesIn x1) I hB hK
    rw [if_neg e28]
    by_cases e29 : iand (xs (v : Int).toNat) 31 = 29
    · rw [if_pos e29, if_pos q1]
      exact law_one (c_count x1) I hB hK
    rw [if_neg e29]
    exact hK M (Inv2_B I (by omega))

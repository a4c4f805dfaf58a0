set_option maxRecDepth 20000 in
theorem q_begin_l {t : Int} : ∀ (d v F : Nat) (M : Mem), v + d = 8 → d < F → (∀ p, p < v → M 208 p = 0 ∧ M 209 p = 0) → ∃ M', f_X6_begin_b27 F t v M = some (0, M') ∧ (∀ p, p < 8 → M' 208 p = 0 ∧ M' 209 p = 0) ∧ M' 206 = up (up (M 206) 5 0) 5 1 ∧ M' 207 = up (M 207) 0 t ∧ Kp 206 4 M M' := by
  intro d
  induction d with
  | zero =>
    intro v F M h1 h2 hv
    obtain ⟨F, rfl⟩ : ∃ k, F = k + 1 := ⟨F - 1, by omega⟩
    obtain rfl : v = 8 := by omega
    unfold f_X6_begin_b27 f_X6_put f_X6_put_b30
    have e0 : wr M 206 5 0 206 5 = 0 := by rw [wr_eq, up_eq]
    rw [if_pos (by omega), if_pos (by omega), zltS, e0, if_pos (by omega), if_neg (by omega), if_pos (by omega), zltS, zltS, wr_ne (show 206 ≠ 207 by decide), e0, zbS]
    refine ⟨_, rfl, fun p hp => ⟨?_, ?_⟩, ?_, ?_, Kp_wr (Kp_wr (Kp_wr Kp_id (by omega)) (by omega)) (by omega)⟩
    · rw [wr_ne (by decide), wr_ne (by decide), wr_ne (by decide)]; exact (hv p hp).1
    · rw [wr_ne (by decide), wr_ne (by decide), wr_ne (by decide)]; exact (hv p hp).2
    · rw [wr_eq, wr_ne (by decide), wr_eq]; rfl
    · rw [wr_ne (by decide), wr_eq, wr_ne (by decide)]; rfl
  | succ d ih =>
    intro v F M h1 h2 hv
    obtain ⟨F, rfl⟩ : ∃ k, F = k + 1 := ⟨F - 1, by omega⟩
    unfold f_X6_begin_b27
    rw [if_pos (by omega), if_neg (by omega), if_pos (by omega), zltS, zltS, show (v : Int).toNat = v from rfl]
    obtain ⟨M', i1, i2, i3, i4, i5⟩ := ih (v + 1) F (wr (wr M 208 v 0) 209 v 0) (by omega) (by omega) (fun p hp => by
      rw [wr_eq, wr_ne (by decide), wr_eq, wr_ne (by decide)]
      by_cases e : p = v
      · rw [e, up_eq, up_eq]; exact ⟨rfl, rfl⟩
      · rw [up_ne e, up_ne e]; exact hv p (by omega))
    push_cast at i1
    refine ⟨M', i1, i2, ?_, ?_, Kp_tr (Kp_wr (Kp_wr Kp_id (by omega)) (by omega)) i5⟩
    · rw [i3, wr_ne (by decide), wr_ne (by decide)]
    · rw [i4, wr_ne (by decide), wr_ne (by decide)]
theorem q_begin (t : Int) (M : Mem) : ∃ M', f_X6_begin t M = some (0, M') ∧ (∀ p, p < 8 → M' 208 p = 0 ∧ M' 209 p = 0) ∧ (M' 206 0 = 0 ∧ M' 206 1 = 0 ∧ M' 206 2 = 0 ∧ M' 206 3 = 0 ∧ M' 206 4 = 0 ∧ M' 206 5 = 1) ∧ M' 207 0 = t ∧ Kp 206 4 M M' := by
  obtain ⟨M', i1, i2, i3, i4, i5⟩ := q_begin_l (t := t) 8 0 100000 (wr (wr (wr (wr (wr M 206 0 0) 206 1 0) 206 2 0) 206 3 0) 206 4 0) rfl (by decide) (fun p hp => by omega)
  refine ⟨M', ?_, i2, ?_, ?_, Kp_tr (Kp_wr (Kp_wr (Kp_wr (Kp_wr (Kp_wr Kp_id (by omega)) (by omega)) (by omega)) (by omega)) (by omega)) i5⟩
  · unfold f_X6_begin
    rw [zltS, zltS, zltS, zltS, zltS]
    exact i1
  · rw [i3]
    simp [wr, up]
  · rw [i4, up_eq]
theorem pop_0 : pop 0 = 0 := by decide
theorem tb_0 (p : Nat) : tb 0 p = 0 := by
  unfold tb
  rw [Nat.zero_testBit]
  rfl

set_option maxRecDepth 20000 in
theorem q_begin_l {t : Int} : ∀ (d v F : Nat) (M : Mem), v + d = 8 → d < F → (∀ p, p < v → M 208 p = 0 ∧ M 209 p = 0) → ∃ M', f_X6_begin_b27 F t v M = some (0, M') ∧ (∀ p, p < 8 → M' 208 p = 0 ∧ M' 209 p = 0) ∧ M' 206 = up (up (M 206) 5 0) 5 1 ∧ M' 207 = up (M 207) 0 t ∧ Kp 206 4 M M' := by
  intro d
  induction d with
  | zero =>
    intro v F M h1 h2 hv
    obtain ⟨F, rfl⟩ : ∃ k, F = k + 1 := ⟨F - 1, by omega⟩
    obtain rfl : v = 8 := by omega
    unfold f_X6_begin_b27 f_X6_put f_X6_put_b30
    have e0 : wr M 206 5 0 206 5 = 0 := by rw [wr_eq, up_eq]
    rw [if_pos (by omega), if_pos (by omega), zltS, e0, if_pos (by omega), if_neg (by omega), if_pos (by omega), zltS, zltS, wr_ne (show 206 ≠ 207 by decide), e0, zbS]
    refine ⟨_, rfl, fun p hp => ⟨?_, ?_⟩, ?_, ?_, Kp_wr (Kp_wr (Kp_wr Kp_id (by omega)) (by omega)) (by omega)⟩
    · rw [wr_ne (by decide), wr_ne (by decide), wr_ne (by decide)]; exact (hv p hp).1
    · rw [wr_ne (by decide), wr_ne (by decide), wr_ne (by decide)]; exact (hv p hp).2
    · rw [wr_eq, wr_ne (by decide), wr_eq]; rfl
    · rw [wr_ne (by decide), wr_eq, wr_ne (by decide)]; rfl
  | succ d ih =>
    intro v F M h1 h2 hv
    obtain ⟨F, rfl⟩ : ∃ k, F = k + 1 := ⟨F - 1, by omega⟩
    unfold f_X6_begin_b27
    rw [if_pos (by omega), if_neg (by omega), if_pos (by omega), zltS, zltS, show (v : Int).toNat = v from rfl]
    obtain ⟨M', i1, i2, i3, i4, i5⟩ := ih (v + 1) F (wr (wr M 208 v 0) 209 v 0) (by omega) (by omega) (fun p hp => by
      rw [wr_eq, wr_ne (by decide), wr_eq, wr_ne (by decide)]
      by_cases e : p = v
      · rw [e, up_eq, up_eq]; exact ⟨rfl, rfl⟩
      · rw [up_ne e, up_ne e]; exact hv p (by omega))
    push_cast at i1
    refine ⟨M', i1, i2, ?_, ?_, Kp_tr (Kp_wr (Kp_wr Kp_id (by omega)) (by omega)) i5⟩
    · rw [i3, wr_ne (by decide), wr_ne (by decide)]
    · rw [i4, wr_ne (by decide), wr_ne (by decide)]
theorem q_begin (t : Int) (M : Mem) : ∃ M', f_X6_begin t M = some (0, M') ∧ (∀ p, p < 8 → M' 208 p = 0 ∧ M' 209 p = 0) ∧ (M' 206 0 = 0 ∧ M' 206 1 = 0 ∧ M' 206 2 = 0 ∧ M' 206 3 = 0 ∧ M' 206 4 = 0 ∧ M' 206 5 = 1) ∧ M' 207 0 = t ∧ Kp 206 4 M M' := by
  obtain ⟨M', i1, i2, i3, i4, i5⟩ := q_begin_l (t := t) 8 0 100000 (wr (wr (wr (wr (wr M 206 0 0) 206 1 0) 206 2 0) 206 3 0) 206 4 0) rfl (by decide) (fun p hp => by omega)
  refine ⟨M', ?_, i2, ?_, ?_, Kp_tr (Kp_wr (Kp_wr (Kp_wr (Kp_wr (Kp_wr Kp_id (by omega)) (by omega)) (by omega)) (by omega)) (by omega)) i5⟩
  · unfold f_X6_begin
    rw [zltS, zltS, zltS, zltS, zltS]
    exact i1
  · rw [i3]
    simp [wr, up]
  · rw [i4, up_eq]
theorem pop_0 : pop 0 = 0 := by decide
theorem tb_0 (p : Nat) : tb 0 p = 0 := by
  unfold tb
  rw [Nat.zero_testBit]
  rfl
/-- the whole way, both sides -/
theorem x_find {B : Int} {r r2 : Row} (W : WF B r) (W2 : WF B r2) (hE : ∀ j, j < 464 ∨ 720 ≤ j → r2 j = r j) {M Q : Mem} (hS : ST M 1 r) (hQ : Q 216 = r2) {i h : Int} (hi : 0 ≤ i ∧ i < 6) (hh : 0 ≤ h ∧ h < 16) : ∃ M' Q' A S k, f_X6_find 1 i h M = some (0, M') ∧ f_X10_findWay i h Q = some (0, Q') ∧ FR M' Q' A S k ∧ Kp 206 4 M M' ∧ Kq Q Q' := by
  have hn := WF1_n W.1
  have hm := WF1_mem W.1 hi.1 hi.2 hh.1 hh.2
  have a1 := hS.1.mem (p := i * 16 + h) (by omega) (by omega)
  have a2 := hS.1.at hh.1 hh.2
  simp only [enc, Bool.false_eq_true, if_false] at a1 a2
  rw [show (756 + (i * 16 + h)).toNat = (756 + 16 * i + h).toNat by omega] at a1
  obtain ⟨N, hN⟩ : ∃ N : Nat, r 863 = N := ⟨(r 863).toNat, by omega⟩
  obtain ⟨rk, hrk⟩ := W.2.1.2.2.2
  obtain ⟨M1, b1, b2, ⟨b30, b31, b32, b33, b34, b35⟩, b4, b5⟩ := q_begin (r (756 + 16 * i + h).toNat) M
  have hQm : r2 (756 + 16 * i + h).toNat = r (756 + 16 * i + h).toNat := hE _ (by omega)
  have hR : FR M1 (wr (wr (wr (wr (wr (wr (wr (wr Q 215 6 0) 215 7 0) 215 8 0) 215 9 0) 215 10 0) 215 11 0) 218 0 (r (756 + 16 * i + h).toNat)) 215 6 1) 0 0 0 := by
    refine ⟨by decide, ⟨?_, ?_⟩, ⟨fun p hp => ?_, fun p hp => ?_⟩, ⟨?_, ?_⟩, ⟨?_, ?_, ?_⟩, ?_, ?_, ⟨?_, ?_, by decide⟩, fun i hi => ?_⟩
    · simp [wr, up]
    · simp [wr, up]
    · rw [tb_0]; exact (b2 p hp).1
    · rw [tb_0]; exact (b2 p hp).2
    · rw [pop_0]; exact b32
    · rw [pop_0]; exact b33
    · simp [wr, up, b30]
    · simp [wr, up, b31]
    · simp [wr, up, b34]
    · exact Or.inl b34
    · rw [b30]; decide
    · simp [wr, up]
    · rw [b35]; rfl
    · obtain rfl : i = 0 := by omega
      rw [b4]
      simp [wr, up]
  have K2 : Kq Q (wr (wr (wr (wr (wr (wr (wr (wr Q 215 6 0) 215 7 0) 215 8 0) 215 9 0) 215 10 0) 215 11 0) 218 0 (r (756 + 16 * i + h).toNat)) 215 6 1) := Kq_5 (Kq_8 (Kq_5 (Kq_5 (Kq_5 (Kq_5 (Kq_5 (Kq_5 Kq_id (by omega)) (by omega)) (by omega)) (by omega)) (by omega)) (by omega))) (by omega)
  have hnb := nrk_b rk h (p := r (756 + 16 * i + h).toNat) (by omega)
  have hp0 := pop_0
  obtain ⟨M', Q', A', S', k', i1, i2, i3, i4, i5⟩ := x_find_l W W2 hE hN hh hrk 200 (r (756 + 16 * i + h).toNat) 0 0 0 100000 100000 M1 _ (by decide) (by decide) (by omega) (ST_kp hS b5 (by decide)) (by rw [K2.1 216 (by decide) (by decide), hQ]) hR b34 (by rw [b30]; rfl) (by omega) (by omega)
  refine ⟨M', Q', A', S', k', ?_, ?_, i3, Kp_tr b5 i4, Kq_tr K2 i5⟩
  · unfold f_X6_find
    rw [q_cell, zbS, if_pos (by omega), zltS, if_pos hh, zltS, show M (1 + 27) (i * 16 + h).toNat = _ from a1, show M (1 + 14) h.toNat = _ from a2, b1, zbS]
    exact i1
  · unfold f_X10_findWay f_X10_comeTo
    simp only [zltS]
    have e6 : (wr (wr (wr (wr (wr (wr Q 215 6 0) 215 7 0) 215 8 0) 215 9 0) 215 10 0) 215 11 0) 215 6 = 0 := by simp [wr, up]
    have e216 : (wr (wr (wr (wr (wr (wr Q 215 6 0) 215 7 0) 215 8 0) 215 9 0) 215 10 0) 215 11 0) 216 = r2 := by
      rw [wr_ne (by decide), wr_ne (by decide), wr_ne (by decide), wr_ne (by decide), wr_ne (by decide), wr_ne (by decide), hQ]
    rw [if_pos (by omega), e216, hQm, e6, if_pos (by decide), zbS, wr_ne (show 215 ≠ 218 by decide), e6]
    exact i2

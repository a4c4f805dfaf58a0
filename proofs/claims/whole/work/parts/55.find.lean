theorem FR_a {M Q : Mem} {A S k : Nat} (h : FR M Q A S k) (h0 : M 206 0 ≤ 190) (h4 : M 206 4 = 0) : FR (wr (wr M 206 0 (M 206 0 + 1)) 206 1 (M 206 1 + 1)) (wr (wr (wr Q 215 8 (Q 215 8 + 1)) 215 11 0) 215 7 (Q 215 7 + 1)) A S k := by
  obtain ⟨h1, ⟨h2, h2'⟩, ⟨h3, h3'⟩, ⟨h4, h4'⟩, ⟨h5, h5', h5''⟩, h6, h7, ⟨h8, h8', h8''⟩, h9⟩ := h
  refine ⟨h1, ⟨?_, ?_⟩, ⟨fun p hp => ?_, fun p hp => ?_⟩, ⟨?_, ?_⟩, ⟨?_, ?_, ?_⟩, ?_, ?_, ⟨?_, ?_, h8''⟩, fun i hi => ?_⟩
  · simp [wr, up, h2]
  · simp [wr, up, h2']
  · simp [wr]; exact h3 p hp
  · simp [wr]; exact h3' p hp
  · simp [wr, up, h4]
  · simp [wr, up, h4']
  · simp [wr, up, h5]
  · simp [wr, up, h5']
  · simp [wr, up, *]
  · simp [wr, up, *]
  · simp [wr, up]; omega
  · simp [wr, up, h8]
  · simp [wr, up, h8']
  · simp [wr]; exact h9 i hi
theorem FR_f {M Q : Mem} {A S k : Nat} (h : FR M Q A S k) (h0 : M 206 0 ≤ 190) (h4 : M 206 4 = 0) {p : Nat} (hp : p < 8) (ht : tb A p = 0) : FR (wr (wr (wr M 206 0 (M 206 0 + 1)) 206 2 (M 206 2 + 1)) 208 p 1) (wr (wr (wr Q 215 9 ((A ||| 2 ^ p : Nat) : Int)) 215 11 0) 215 7 (Q 215 7 + 1)) (A ||| 2 ^ p) S k := by
  obtain ⟨h1, ⟨h2, h2'⟩, ⟨h3, h3'⟩, ⟨g4, g4'⟩, ⟨h5, h5', h5''⟩, h6, h7, ⟨h8, h8', h8''⟩, h9⟩ := h
  have hb := bit_set A h1.1 p hp
  refine ⟨⟨hb.2.1, h1.2⟩, ⟨?_, ?_⟩, ⟨fun x hx => ?_, fun p hp => ?_⟩, ⟨?_, ?_⟩, ⟨?_, ?_, ?_⟩, ?_, ?_, ⟨?_, ?_, h8''⟩, fun i hi => ?_⟩
  · simp [wr, up]
  · simp [wr, up, h2']
  · rw [bit_put A h1.1 p hp x hx, wr_eq]
    by_cases e : x = p
    · rw [e, up_eq, if_pos rfl]
    · rw [up_ne e, if_neg e, wr_ne (by decide), wr_ne (by decide)]; exact h3 x hx
  · simp [wr]; exact h3' p hp
  · rw [hb.2.2 ht]; simp [wr, up, g4]
  · simp [wr, up, g4']
  · simp [wr, up, h5]
  · simp [wr, up, h5']
  · simp [wr, up, h4]
  · simp [wr, up, h4]
  · simp [wr, up]; omega
  · simp [wr, up, h8]
  · simp [wr, up, h8']
  · simp [wr]; exact h9 i hi
theorem FR_n {M Q : Mem} {A S k : Nat} (h : FR M Q A S k) (h0 : M 206 0 ≤ 190) (h4 : M 206 4 = 0) {p : Nat} (hp : p < 8) (ht : tb S p = 0) : FR (wr (wr (wr M 206 0 (M 206 0 + 1)) 206 3 (M 206 3 + 1)) 209 p 1) (wr (wr (wr Q 215 10 ((S ||| 2 ^ p : Nat) : Int)) 215 11 0) 215 7 (Q 215 7 + 1)) A (S ||| 2 ^ p) k := by
  obtain ⟨h1, ⟨h2, h2'⟩, ⟨h3, h3'⟩, ⟨g4, g4'⟩, ⟨h5, h5', h5''⟩, h6, h7, ⟨h8, h8', h8''⟩, h9⟩ := h
  have hb := bit_set S h1.2 p hp
  refine ⟨⟨h1.1, hb.2.1⟩, ⟨?_, ?_⟩, ⟨fun p hp => ?_, fun x hx => ?_⟩, ⟨?_, ?_⟩, ⟨?_, ?_, ?_⟩, ?_, ?_, ⟨?_, ?_, h8''⟩, fun i hi => ?_⟩
  · simp [wr, up, h2]
  · simp [wr, up]
  · simp [wr]; exact h3 p hp
  · rw [bit_put S h1.2 p hp x hx, wr_eq]
    by_cases e : x = p
    · rw [e, up_eq, if_pos rfl]
    · rw [up_ne e, if_neg e, wr_ne (by decide), wr_ne (by decide)]; exact h3' x hx
  · simp [wr, up, g4]
  · rw [hb.2.2 ht]; simp [wr, up, g4']
  · simp [wr, up, h5]
  · simp [wr, up, h5']
  · simp [wr, up, h4]
  · simp [wr, up, h4]
  · simp [wr, up]; omega
  · simp [wr, up, h8]
  · simp [wr, up, h8']
  · simp [wr]; exact h9 i hi
theorem FR_c {M Q : Mem} {A S k : Nat} (h : FR M Q A S k) {N : Nat} (hN : N ≤ 8) (h0 : M 206 0 ≤ 190) : FR (wr (wr M 206 0 (M 206 0 + N)) 206 4 1) (wr (wr (wr Q 215 10 (S : Nat)) 215 11 1) 215 7 (Q 215 7 + N)) A S k := by
  obtain ⟨h1, ⟨h2, h2'⟩, ⟨h3, h3'⟩, ⟨g4, g4'⟩, ⟨h5, h5', h5''⟩, h6, h7, ⟨h8, h8', h8''⟩, h9⟩ := h
  refine ⟨h1, ⟨?_, ?_⟩, ⟨fun p hp => ?_, fun x hx => ?_⟩, ⟨?_, ?_⟩, ⟨?_, ?_, ?_⟩, ?_, ?_, ⟨?_, ?_, h8''⟩, fun i hi => ?_⟩
  · simp [wr, up, h2]
  · simp [wr, up]
  · simp [wr]; exact h3 p hp
  · simp [wr]; exact h3' x hx
  · simp [wr, up, g4]
  · simp [wr, up, g4']
  · simp [wr, up, h5]
  · simp [wr, up, h5']
  · simp [wr, up]
  · simp [wr, up]
  · simp [wr, up]; omega
  · simp [wr, up, h8]
  · simp [wr, up, h8']
  · simp [wr]; exact h9 i hi
theorem p_on {Q : Mem} {r : Row} (hQ : Q 216 = r) {g : Int → Int → Mem → Option (Int × Mem)} {h t : Int} {k : Nat} (hk : k ≤ 135) (h6 : Q 215 6 = (k : Int) + 1) : f_X10_findWay_b86 g h t 0 Q = g h t (comeQ (wr (wr Q 215 11 0) 215 7 (Q 215 7 + 1)) k t) := by
  unfold f_X10_findWay_b86 f_X10_findWay_b113 f_X10_findWay_b139
  rw [if_pos (Or.inl rfl), zltS]
  have e1 : wr Q 215 11 0 215 11 = 0 := by rw [wr_eq, up_eq]
  rw [e1, if_pos (by decide), if_pos rfl, zltS]
  have e2 : wr Q 215 11 0 215 7 = Q 215 7 := by rw [wr_eq, up_ne (by decide)]
  have e3 : ∀ v, wr (wr Q 215 11 0) 215 7 v 215 11 = 0 := fun v => by rw [wr_eq, up_ne (by decide), e1]
  rw [e3, if_pos (by decide), if_pos rfl, e2, p_come hk (by rw [wr_eq, up_ne (by decide), wr_eq, up_ne (by decide), h6]), zbS]
theorem p_cry {Q : Mem} {r : Row} (hQ : Q 216 = r) {g : Int → Int → Mem → Option (Int × Mem)} {h t : Int} (hh : 0 ≤ h ∧ h < 16) {k : Nat} (hk : k ≤ 135) (h6 : Q 215 6 = (k : Int) + 1) : f_X10_findWay_b86 g h t 1 Q = g h (r (416 + h).toNat) (comeQ (wr (wr Q 215 11 1) 215 7 (Q 215 7 + r 863)) k (r (416 + h).toNat)) := by
  unfold f_X10_findWay_b86 f_X10_findWay_b113 f_X10_findWay_b139
  rw [if_pos (Or.inr rfl), zltS]
  have e1 : wr Q 215 11 1 215 11 = 1 := by rw [wr_eq, up_eq]
  rw [e1, if_pos (by decide), if_neg (by decide), zltS]
  have e2 : wr Q 215 11 1 215 7 = Q 215 7 := by rw [wr_eq, up_ne (by decide)]
  have e3 : ∀ v, wr (wr Q 215 11 1) 215 7 v 215 11 = 1 := fun v => by rw [wr_eq, up_ne (by decide), e1]
  have e4 : wr Q 215 11 1 216 863 = r 863 := by rw [wr_ne (by decide), hQ]
  rw [e3, if_pos (by decide), if_neg (by decide), if_pos (by omega), e2, e4, wr_ne (by decide), wr_ne (by decide), hQ, p_come hk (by rw [wr_eq, up_ne (by decide), wr_eq, up_ne (by decide), h6]), zbS]
theorem ninF_c {r r2 : Row} (hE : ∀ j, j < 464 ∨ 720 ≤ j → r2 j = r j) {p : Int} (hp : 0 ≤ p ∧ p < 8) (Z : Nat) : ∀ n : Nat, n ≤ 8 → ninF r2 p Z n = ninF r p Z n := by
  have hd : ∀ x : Int, 0 ≤ x ∧ x < 8 → dlF r2 x p = dlF r x p := fun x hx => by unfold dlF; rw [hE _ (by omega), hE _ (by omega)]
  intro n
  induction n with
  | zero => intro _; rfl
  | succ n ih =>
    intro hn
    have hb := ninF_b r p Z n
    rw [ninF_s, ninF_s, ih (by omega), hE _ (show ((0 + 4 * (n : Int)) + 2).toNat < 464 ∨ _ by omega), hd n (by omega)]
    by_cases c : ninF r p Z n = -5
    · rw [c]
      simp
    · rw [hd _ (by omega)]
set_option maxRecDepth 20000 in
theorem x_find_l {B : Int} {r r2 : Row} (W : WF B r) (W2 : WF B r2) (hE : ∀ j, j < 464 ∨ 720 ≤ j → r2 j = r j) {N : Nat} (hN : r 863 = N) {h : Int} (hh : 0 ≤ h ∧ h < 16) {rk : Int → Int → Nat} (hrk : ∀ p h : Int, 0 ≤ p → p < 8 → 0 ≤ h → h < 16 → r (160 + 16 * p + h).toNat ≠ 0 → rk h p < rk h (r (160 + 16 * p + h).toNat - 1)) : ∀ (f : Nat) (p : Int) (A S k F G : Nat) (M Q : Mem), f < F → f < G → 0 ≤ p ∧ p < 8 → ST M 1 r → Q 216 = r2 → FR M Q A S k → M 206 4 = 0 → M 206 0 = k → (k : Int) + (8 * (17 - pop A - pop S) - nrk rk h p) ≤ 136 → 8 * (17 - pop A - pop S) - nrk rk h p ≤ f → ∃ M' Q' A' S' k', f_X6_find_b35 1 F h p (r (416 + h).toNat) k M = some (0, M') ∧ f_X10_findWay_b51 G h p Q = some (0, Q') ∧ FR M' Q' A' S' k' ∧ Kp 206 4 M M' ∧ Kq Q Q' := by
  have hn := WF1_n W.1
  have hat := WF1_at W.1 hh.1 hh.2
  have stopM : ∀ (F : Nat) (M : Mem) (k : Nat) (p : Int), k ≤ 136 → p = r (416 + h).toNat → f_X6_find_b35 1 (F + 1) h p (r (416 + h).toNat) k M = some (0, M) := by
    intro F M k p hk hp
    unfold f_X6_find_b35 f_X6_find_b72
    rw [if_pos (by omega), if_neg (by omega), if_pos (by omega), if_pos (by omega), if_pos hp]
  have hEa : r2 (416 + h).toNat = r (416 + h).toNat := hE _ (by omega)
  have hEn : r2 863 = r 863 := hE _ (by omega)
  have stopQ : ∀ (G : Nat) (Q : Mem) (p : Int), Q 216 = r2 → p = r (416 + h).toNat → f_X10_findWay_b51 (G + 1) h p Q = some (0, Q) := by
    intro G Q p hQ hp
    unfold f_X10_findWay_b51
    rw [if_pos (by omega), if_pos (by omega), if_pos (by rw [hQ]; omega), if_pos (by rw [hQ, hEa]; exact hp)]
  intro f
  induction f with
  | zero =>
    intro p A S k F G M Q hF hG hp hS hQ hR h4 h0 hb hf
    exfalso
    have := nrk_b rk h hp
    have := pop_b A
    have := pop_b S
    omega
  | succ f ih =>
    intro p A S k F G M Q hF hG hp hS hQ hR h4 h0 hb hf
    obtain ⟨F, rfl⟩ : ∃ k, F = k + 1 := ⟨F - 1, by omega⟩
    obtain ⟨G, rfl⟩ : ∃ k, G = k + 1 := ⟨G - 1, by omega⟩
    have hb1 := nrk_b rk h hp
    have hb2 := pop_b A
    have hb3 := pop_b S
    have hR0 := hR
    obtain ⟨⟨z1, z1'⟩, ⟨z2, z2'⟩, ⟨z3, z3'⟩, -, -, -, -, ⟨z8, z8', z8''⟩, -⟩ := hR0
    by_cases cat : p = r (416 + h).toNat
    · exact ⟨M, Q, A, S, k, stopM F M k p (by omega) cat, stopQ G Q p hQ cat, hR, Kp_id, Kq_id⟩
    have hk : k ≤ 135 := by omega
    -- one step of the class, once its move is known
    have goM : ∀ (t : Int) (M1 : Mem), f_X6_next 1 h p M = some (t, M1) → M1 206 5 = (k : Int) + 1 → f_X6_find_b35 1 (F + 1) h p (r (416 + h).toNat) k M = f_X6_find_b35 1 F h t (r (416 + h).toNat) ((k + 1 : Nat) : Int) (putM M1 k t) := by
      intro t M1 e1 e2
      conv => lhs; unfold f_X6_find_b35
      rw [if_pos (by omega), if_neg (by omega), if_pos (by omega), if_pos (by omega), if_neg cat, e1, zbS, q_put hk e2, zbS]
      rfl
    have goQ : ∀ (t : Int) (Q1 : Mem), f_X10_stepFrom p h Q = some (t, Q1) → inR t → f_X10_findWay_b51 (G + 1) h p Q = if t = -5 then f_X10_findWay_b86 (f_X10_findWay_b51 G) h t 1 Q1 else f_X10_findWay_b86 (f_X10_findWay_b51 G) h t 0 Q1 := by
      intro t Q1 e1 e2
      conv => lhs; unfold f_X10_findWay_b51
      rw [if_pos (by omega), if_pos (by omega), if_pos (by rw [hQ]; omega), if_neg (by rw [hQ, hEa]; exact cat), e1, zbS, if_pos e2]
    have kpM : ∀ (M1 : Mem) (t : Int), Kp 206 4 M M1 → Kp 206 4 M (putM M1 k t) := fun M1 t hK => Kp_wr (Kp_wr hK (by omega)) (by omega)
    have kqQ : ∀ (Q1 : Mem) (t : Int), Kq Q Q1 → Kq Q (comeQ Q1 k t) := fun Q1 t hK => Kq_5 (Kq_8 hK) (by omega)
    have c216 : ∀ (Q1 : Mem) (t : Int), Q1 216 = r2 → (comeQ Q1 k t) 216 = r2 := fun Q1 t e => by unfold comeQ; rw [wr_ne (by decide), wr_ne (by decide), e]
    have stM : ∀ M1, Kp 206 4 M M1 → ST M1 1 r := fun M1 hK => ST_kp hS hK (by decide)
    have pm0 : ∀ (M1 : Mem) (t : Int) (j : Nat), j ≠ 5 → (putM M1 k t) 206 j = M1 206 j := fun M1 t j hj => by unfold putM; rw [wr_eq, up_ne hj, wr_ne (by decide)]
    by_cases ct : Trk r h p
    · have hb := WF1_trk W.1 hp.1 hp.2 hh.1 hh.2
      have hlt := nrk_lt (h := h) hp (hrk p h hp.1 hp.2 hh.1 hh.2 (by omega))
      have ht8 : 0 ≤ r (160 + 16 * p + h).toNat - 1 ∧ r (160 + 16 * p + h).toNat - 1 < 8 := by omega
      have g1 := q_next_t hS.1 W hh hp ct
      have e160 : r2 (160 + 16 * p + h).toNat = r (160 + 16 * p + h).toNat := hE _ (by omega)
      have g2 := p_step_t hQ W2 hh hp (show Trk r2 h p by unfold Trk; rw [e160]; exact ct)
      rw [e160] at g2
      have hR1 := FR_put (FR_a hR (by omega) h4) hk (r (160 + 16 * p + h).toNat - 1)
      have K1 : Kp 206 4 M (wr (wr M 206 0 (M 206 0 + 1)) 206 1 (M 206 1 + 1)) := Kp_wr (Kp_wr Kp_id (by omega)) (by omega)
      have K2 : Kq Q (wr (wr (wr Q 215 8 (Q 215 8 + 1)) 215 11 0) 215 7 (Q 215 7 + 1)) := Kq_5 (Kq_5 (Kq_5 Kq_id (by omega)) (by omega)) (by omega)
      obtain ⟨M', Q', A', S', k', i1, i2, i3, i4, i5⟩ := ih (r (160 + 16 * p + h).toNat - 1) A S (k + 1) F G _ _ (by omega) (by omega) ht8 (stM _ (kpM _ _ K1)) (c216 _ _ (by rw [wr_ne (by decide), wr_ne (by decide), wr_ne (by decide), hQ])) hR1 (by rw [pm0 _ _ 4 (by decide)]; simp [wr, up, h4]) (by rw [pm0 _ _ 0 (by decide)]; simp [wr, up, h0]) (by omega) (by omega)
      refine ⟨M', Q', A', S', k', ?_, ?_, i3, Kp_tr (kpM _ _ K1) i4, Kq_tr (kqQ _ _ K2) i5⟩
      · rw [goM _ _ g1 (by simp [wr, up, z8'])]; exact i1
      · rw [goQ _ _ g2 (by omega), if_neg (by omega), p_on (r := r2) (by rw [wr_ne (by decide), hQ]) hk (by simp [wr, up, z8])]
        rw [show wr Q 215 8 (Q 215 8 + 1) 215 7 = Q 215 7 by rw [wr_eq, up_ne (by decide)]]
        exact i2
    have n1 := q_next_o hS.1 W z3 hh hp ct
    have e160 : r2 (160 + 16 * p + h).toNat = r (160 + 16 * p + h).toNat := hE _ (by omega)
    have e32 : r2 (32 + 16 * p + h).toNat = r (32 + 16 * p + h).toNat := hE _ (by omega)
    have n2 := p_step_o hQ W2 z1 z2 hh hp (show ¬ Trk r2 h p by unfold Trk; rw [e160]; exact ct)
    have eF : Fwd r2 h p A ↔ Fwd r h p A := by unfold Fwd; rw [e32]
    have hpw : 0 ≤ p.toNat ∧ p.toNat < 8 := by omega
    by_cases cf : Fwd r h p A
    · rw [if_pos cf] at n1
      rw [if_pos (eF.mpr cf), e32] at n2
      have hb := WF1_post W.1 hp.1 hp.2 hh.1 hh.2
      have ht8 : 0 ≤ r (32 + 16 * p + h).toNat - 1 ∧ r (32 + 16 * p + h).toNat - 1 < 8 := by have := cf.2.1; omega
      have hnb := nrk_b rk h ht8
      have hps := (bit_set A z1 p.toNat (by omega)).2.2 cf.1
      have hR1 := FR_put (FR_f hR (by omega) h4 (p := p.toNat) (by omega) cf.1) hk (r (32 + 16 * p + h).toNat - 1)
      have K1 : Kp 206 4 M (wr (wr (wr M 206 0 (M 206 0 + 1)) 206 2 (M 206 2 + 1)) 208 p.toNat 1) := Kp_wr (Kp_wr (Kp_wr Kp_id (by omega)) (by omega)) (by omega)
      have K2 : Kq Q (wr (wr (wr Q 215 9 ((A ||| 2 ^ p.toNat : Nat) : Int)) 215 11 0) 215 7 (Q 215 7 + 1)) := Kq_5 (Kq_5 (Kq_5 Kq_id (by omega)) (by omega)) (by omega)
      obtain ⟨M', Q', A', S', k', i1, i2, i3, i4, i5⟩ := ih (r (32 + 16 * p + h).toNat - 1) (A ||| 2 ^ p.toNat) S (k + 1) F G _ _ (by omega) (by omega) ht8 (stM _ (kpM _ _ K1)) (c216 _ _ (by rw [wr_ne (by decide), wr_ne (by decide), wr_ne (by decide), hQ])) hR1 (by rw [pm0 _ _ 4 (by decide)]; simp [wr, up, h4]) (by rw [pm0 _ _ 0 (by decide)]; simp [wr, up, h0]) (by omega) (by omega)
      refine ⟨M', Q', A', S', k', ?_, ?_, i3, Kp_tr (kpM _ _ K1) i4, Kq_tr (kqQ _ _ K2) i5⟩
      · rw [goM _ _ n1 (by simp [wr, up, z8'])]; exact i1
      · rw [goQ _ _ n2 (by omega), if_neg (by omega), p_on (r := r2) (by rw [wr_ne (by decide), hQ]) hk (by simp [wr, up, z8])]
        rw [show wr Q 215 9 ((A ||| 2 ^ p.toNat : Nat) : Int) 215 7 = Q 215 7 by rw [wr_eq, up_ne (by decide)]]
        exact i2
    rw [if_neg cf] at n1
    rw [if_neg (fun q => cf (eF.mp q))] at n2
    rw [q_b113 hS.1 W z3 z3' hN hh hp] at n1
    rw [p_b92 hQ W2 z1 z1' z2 z2' (hEn.trans hN) hp, ninF_c hE hp (A ||| S) N (by omega)] at n2
    have hnin := ninF_b r p (A ||| S) N
    by_cases cc : ninF r p (A ||| S) N = -5
    · rw [if_pos cc] at n1 n2
      have hR1 := FR_put (FR_c hR (N := N) (by omega) (by omega)) hk (r (416 + h).toNat)
      have K1 : Kp 206 4 M (wr (wr M 206 0 (M 206 0 + N)) 206 4 1) := Kp_wr (Kp_wr Kp_id (by omega)) (by omega)
      have K2 : Kq Q (wr (wr (wr Q 215 10 (S : Nat)) 215 11 1) 215 7 (Q 215 7 + N)) := Kq_5 (Kq_5 (Kq_5 Kq_id (by omega)) (by omega)) (by omega)
      obtain ⟨F, rfl⟩ : ∃ k, F = k + 1 := ⟨F - 1, by omega⟩
      obtain ⟨G, rfl⟩ : ∃ k, G = k + 1 := ⟨G - 1, by omega⟩
      refine ⟨_, _, A, S, k + 1, ?_, ?_, hR1, kpM _ _ K1, kqQ _ _ K2⟩
      · rw [goM _ _ n1 (by simp [wr, up, z8'])]
        exact stopM F _ (k + 1) _ (by omega) rfl
      · rw [goQ _ _ n2 (by decide), if_pos rfl, p_cry (r := r2) (by rw [wr_ne (by decide), hQ]) hh hk (by simp [wr, up, z8]), hEa, hEn]
        rw [show wr Q 215 10 (S : Nat) 215 7 = Q 215 7 by rw [wr_eq, up_ne (by decide)], hN]
        exact stopQ G _ _ (c216 _ _ (by rw [wr_ne (by decide), wr_ne (by decide), wr_ne (by decide), hQ])) rfl
    · rw [if_neg cc] at n1 n2
      rcases hnin with e | ⟨hq1, hq2⟩
      · exact absurd e cc
      have ht8 : 0 ≤ ninF r p (A ||| S) N ∧ ninF r p (A ||| S) N < 8 := by omega
      have hnb := nrk_b rk h ht8
      have hts : tb S (ninF r p (A ||| S) N).toNat = 0 := by
        have h5 := tb_or A S (ninF r p (A ||| S) N).toNat
        have h6 := tb_b S (ninF r p (A ||| S) N).toNat
        by_cases c : tb S (ninF r p (A ||| S) N).toNat = 0
        · exact c
        · rw [if_pos (Or.inr (by omega))] at h5; omega
      have hps := (bit_set S z1' (ninF r p (A ||| S) N).toNat (by omega)).2.2 hts
      have hR1 := FR_put (FR_n hR (by omega) h4 (p := (ninF r p (A ||| S) N).toNat) (by omega) hts) hk (ninF r p (A ||| S) N)
      have K1 : Kp 206 4 M (wr (wr (wr M 206 0 (M 206 0 + 1)) 206 3 (M 206 3 + 1)) 209 (ninF r p (A ||| S) N).toNat 1) := Kp_wr (Kp_wr (Kp_wr Kp_id (by omega)) (by omega)) (by omega)
      have K2 : Kq Q (wr (wr (wr Q 215 10 ((S ||| 2 ^ (ninF r p (A ||| S) N).toNat : Nat) : Int)) 215 11 0) 215 7 (Q 215 7 + 1)) := Kq_5 (Kq_5 (Kq_5 Kq_id (by omega)) (by omega)) (by omega)
      obtain ⟨M', Q', A', S', k', i1, i2, i3, i4, i5⟩ := ih (ninF r p (A ||| S) N) A (S ||| 2 ^ (ninF r p (A ||| S) N).toNat) (k + 1) F G _ _ (by omega) (by omega) ht8 (stM _ (kpM _ _ K1)) (c216 _ _ (by rw [wr_ne (by decide), wr_ne (by decide), wr_ne (by decide), hQ])) hR1 (by rw [pm0 _ _ 4 (by decide)]; simp [wr, up, h4]) (by rw [pm0 _ _ 0 (by decide)]; simp [wr, up, h0]) (by omega) (by omega)
      refine ⟨M', Q', A', S', k', ?_, ?_, i3, Kp_tr (kpM _ _ K1) i4, Kq_tr (kqQ _ _ K2) i5⟩
      · rw [goM _ _ n1 (by simp [wr, up, z8'])]; exact i1
      · rw [goQ _ _ n2 (by omega), if_neg (by omega), p_on (r := r2) (by rw [wr_ne (by decide), hQ]) hk (by simp [wr, up, z8])]
        rw [show wr Q 215 10 ((S ||| 2 ^ (ninF r p (A ||| S) N).toNat : Nat) : Int) 215 7 = Q 215 7 by rw [wr_eq, up_ne (by decide)]]
        exact i2

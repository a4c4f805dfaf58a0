theorem Ks_tr {M M1 M2 : Mem} (h : Ks M M1) (h2 : Ks M1 M2) : Ks M M2 := fun x hx => by rw [h2 x hx, h x hx]
theorem Kr_tr {Q Q1 Q2 : Mem} (h : Kr Q Q1) (h2 : Kr Q1 Q2) : Kr Q Q2 := ⟨fun x a1 a2 a3 => by rw [h2.1 x a1 a2 a3, h.1 x a1 a2 a3], fun j hj => by rw [h2.2 j hj, h.2 j hj]⟩
theorem Kr_6 {Q : Mem} {i : Nat} {v : Int} : Kr Q (wr Q 216 i v) := ⟨fun x _ a2 _ => wr_ne a2, fun j _ => by rw [wr_ne (by decide)]⟩
theorem TQ_k {Q Q' : Mem} {n : Nat} {c : Nat → Int} (h : TQ Q n c) (hK : Kr Q Q') : TQ Q' n c := ⟨by rw [hK.2 4 (by decide)]; exact h.1, h.2.1, fun j hj => by rw [hK.1 217 (by decide) (by decide) (by decide)]; exact h.2.2.1 j hj, h.2.2.2⟩
theorem wr_same {Q : Mem} {k i : Nat} : wr Q k i (Q k i) = Q := by rw [wr_as, up_self rfl, ml_id]
set_option maxRecDepth 20000 in
theorem p_in1 {Q : Mem} {n e p : Nat} {c : Nat → Int} {g : Int → Int → Mem → Option (Int × Mem)} {s ky : Int} (hT : TQ Q n c) (he : e ≤ n) (h44 : e < n → c e = 44) (hpe : p ≤ e) (w1 : ∀ j, p ≤ j → j < e → c j ≠ 44) (hk : 0 ≤ ky ∧ ky < 256) {G : Nat} : ∀ (d j : Nat), j + d ≤ e → (∀ i, j ≤ i → i < j + d → c i ≠ 61) → f_X10_readRequests_b51 g (G + d) s p ky j Q = f_X10_readRequests_b51 g G s p ky ((j + d : Nat) : Int) Q := by
  have hn := hT.2.1
  have hnx := p_next hT he h44 hpe w1
  intro d
  induction d with
  | zero => intro j _ _; rfl
  | succ d ih =>
    intro j hj hc
    have h3 := ih (j + 1) (by omega) (fun i a1 a2 => hc i (by omega) (by omega))
    have e7 : Q 217 (j : Int).toNat = c j := hT.2.2.1 j (by omega)
    have hb := hT.2.2.2 j (by omega)
    rw [show G + (d + 1) = G + d + 1 by omega]
    conv => lhs; unfold f_X10_readRequests_b51 f_X10_readRequests_b107
    rw [hnx, zbS, if_pos (by omega), if_pos (by omega), if_neg (by omega), if_pos (by omega), e7, if_pos (by omega), if_neg (hc j (by omega) (by omega)), if_pos (by omega), if_pos (by omega), zltS, wr_same]
    rw [show ((j : Int) + 1) = ((j + 1 : Nat) : Int) by omega, h3, show j + 1 + d = j + (d + 1) by omega]
/-- the model at one request: the value is written, then it is served -/
theorem p_one {Q : Mem} {n e p : Nat} {c : Nat → Int} {g : Int → Int → Mem → Option (Int × Mem)} {s rd ky vl : Int} {r : Row} (hT : TQ Q n c) (hQ : Q 216 = r) (ho : OneReq c n p e rd ky vl) (h44 : e < n → c e = 44) (hk : 0 ≤ ky ∧ ky < 256) : ∃ Q1, Q1 216 = (if vl = -1 then r else up r (464 + ky).toNat vl) ∧ Kr Q Q1 ∧ ∀ x Q', f_X10_reachFor rd ky Q1 = some (x, Q') → Kr Q1 Q' → f_X10_readRequests_b51 g 100000 s p ky p Q = g (s + x) ((e : Int) + 1) Q' := by
  obtain ⟨w1, w2, w3, w4⟩ := one_ok ho h44
  have hp3 := ho.1
  have he := ho.2.1
  have hrd := ho.2.2.1
  have hn := hT.2.1
  have fin : ∀ (Q1 : Mem) (G : Nat), TQ Q1 n c → ∀ x Q', f_X10_reachFor rd ky Q1 = some (x, Q') → Kr Q1 Q' → f_X10_readRequests_b51 g (G + 1) s p ky e Q1 = g (s + x) ((e : Int) + 1) Q' := by
    intro Q1 G hT1 x Q' hr hK
    have e7 : Q1 217 (p : Int).toNat = c p := hT1.2.2.1 p (by omega)
    unfold f_X10_readRequests_b51
    rw [p_next hT1 he h44 (show p ≤ e by omega) w1, zbS, if_pos (by omega), if_pos (by omega), if_pos (by omega), if_pos (by omega), e7, show c p - 48 = rd by omega, hr, zbS, zltS, p_next (TQ_k hT1 hK) he h44 (show p ≤ e by omega) w1, zbS]
  rcases w4 with ⟨v1, v2⟩ | ⟨v1, q, q1, q2, q3, q4, q5⟩
  · refine ⟨Q, by rw [if_pos v1]; exact hQ, ⟨fun _ _ _ _ => rfl, fun _ _ => rfl⟩, fun x Q' hr hK => ?_⟩
    have h1 := p_in1 (g := g) (s := s) (G := 100000 - (e - p)) hT he h44 (show p ≤ e by omega) w1 hk (e - p) p (by omega) (fun i a1 a2 => v2 i a1 (by omega))
    rw [show 100000 - (e - p) + (e - p) = 100000 by omega, show p + (e - p) = e by omega] at h1
    rw [h1, show 100000 - (e - p) = 100000 - (e - p) - 1 + 1 by omega]
    exact fin Q _ hT x Q' hr hK
  · have K1 : Kr Q (wr Q 216 (464 + ky).toNat vl) := Kr_6
    refine ⟨wr Q 216 (464 + ky).toNat vl, by rw [if_neg (by omega), wr_eq, hQ], K1, fun x Q' hr hK => ?_⟩
    have h1 := p_in1 (g := g) (s := s) (G := 100000 - (q - p)) hT he h44 (show p ≤ e by omega) w1 hk (q - p) p (by omega) (fun i a1 a2 => q4 i a1 (by omega) (by omega))
    rw [show 100000 - (q - p) + (q - p) = 100000 by omega, show p + (q - p) = q by omega] at h1
    have T1 := TQ_k hT K1
    have h2 := p_in1 (g := g) (s := s) (G := 100000 - (q - p) - 1 - (e - (q + 1))) T1 he h44 (show p ≤ e by omega) w1 hk (e - (q + 1)) (q + 1) (by omega) (fun i a1 a2 => q4 i (by omega) (by omega) (by omega))
    rw [show 100000 - (q - p) - 1 - (e - (q + 1)) + (e - (q + 1)) = 100000 - (q - p) - 1 by omega, show q + 1 + (e - (q + 1)) = e by omega] at h2
    have h3 : f_X10_readRequests_b51 g (100000 - (q - p)) s p ky q Q = f_X10_readRequests_b51 g (100000 - (q - p) - 1) s p ky ((q + 1 : Nat) : Int) (wr Q 216 (464 + ky).toNat vl) := by
      have e7 : Q 217 (q : Int).toNat = c q := hT.2.2.1 q (by omega)
      have hna := q5 Q hT
      rw [show ((q + 1 : Nat) : Int) = (q : Int) + 1 by omega] at hna
      obtain ⟨G, hG⟩ : ∃ G, 100000 - (q - p) = G + 1 := ⟨100000 - (q - p) - 1, by omega⟩
      rw [hG, show G + 1 - 1 = G by omega]
      conv => lhs; unfold f_X10_readRequests_b51 f_X10_readRequests_b107
      rw [p_next hT he h44 (show p ≤ e by omega) w1, zbS, if_pos (by omega), if_pos (by omega), if_neg (by omega), if_pos (by omega), e7, if_pos (by omega), if_pos q3, hna, zbS, if_pos (by omega), zltS]
      rfl
    rw [h1, h3, h2, show 100000 - (q - p) - 1 - (e - (q + 1)) = 100000 - (q - p) - 1 - (e - (q + 1)) - 1 + 1 by omega]
    exact fin _ _ T1 x Q' hr hK
set_option maxRecDepth 20000 in
theorem x_reqs_l {n D : Nat} {c : Nat → Int} {R K V : Nat → Int} (h16 : D ≤ 16) : ∀ (d t p F G : Nat) (s B : Int) (M Q : Mem) (r : Row), ReqL c n R K V d t p → t + d = D → d < F → d < G → ST M 1 r → WF B r → Q 216 = r → TQ Q n c → M 210 1 = D → M 211 = R → M 212 = K → M 213 = V → AK r R K t d → ∃ x M' Q' r', f_X9_readRequests_b85 F s t M = some (x, M') ∧ f_X10_readRequests_b31 G s p Q = some (x, Q') ∧ ST M' 1 r' ∧ WF B r' ∧ Q' 216 = r' ∧ Ks M M' ∧ Kr Q Q' ∧ (∀ j, 871 ≤ j → r' j = r j) ∧ r' 862 = r 862 := by
  intro d
  induction d with
  | zero => intro t p F G s B M Q r hL; exact hL.elim
  | succ d ih =>
    intro t p F G s B M Q r hL hD hF hG hS W hQ hT h1 hR hK hV hA
    obtain ⟨F, rfl⟩ : ∃ k, F = k + 1 := ⟨F - 1, by omega⟩
    obtain ⟨G, rfl⟩ : ∃ k, G = k + 1 := ⟨G - 1, by omega⟩
    obtain ⟨e, o1, o2⟩ := hL
    have h44 : e < n → c e = 44 := fun q => by rcases o2 with o2 | o2; omega; exact o2.2.2.1
    obtain ⟨w1, w2, w3, w4⟩ := one_ok o1 h44
    have hp3 := o1.1
    have hen := o1.2.1
    have hn := hT.2.1
    have hA' := AK_s.mp hA
    have hv : V t = -1 ∨ (0 ≤ V t ∧ V t ≤ 9999) := by
      rcases w4 with w4 | w4
      · exact Or.inl w4.1
      · exact Or.inr w4.1
    obtain ⟨Q1, a1, a2, a3⟩ := p_one (g := f_X10_readRequests_b31 G) (s := s) hT hQ o1 h44 hA'.1.2
    obtain ⟨x, M', Q', r', b1, b2, b3, b4, b5, b6, b7, b8, b9, b10, b11, -⟩ := x_serve hS W hA'.1.1 hA'.1.2 hv a1
    have hmod := a3 x Q' b2 b7
    have K2 := Kr_tr a2 b7
    have hcl : f_X9_readRequests_b85 (F + 1) s t M = f_X9_readRequests_b85 F (s + x) ((t + 1 : Nat) : Int) M' := by
      conv => lhs; unfold f_X9_readRequests_b85
      rw [h1, if_pos (by omega), if_pos (by omega), if_neg (by omega), if_pos (by omega), show (t : Int).toNat = t from rfl, hR, hK, hV, b1, zbS, zltS]
      rfl
    have hml : f_X10_readRequests_b31 (G + 1) s p Q = f_X10_readRequests_b31 G (s + x) ((e + 1 : Nat) : Int) Q' := by
      conv => lhs; unfold f_X10_readRequests_b31
      rw [hT.1, if_pos (by omega), if_pos (by omega), if_neg (by omega), show (p : Int) + 2 = ((p + 2 : Nat) : Int) by omega, w3 Q hT, zbS]
      exact hmod
    have m1 : M' 210 1 = (D : Int) := by rw [b6 210 (by omega)]; exact h1
    rcases o2 with ⟨o2, o3⟩ | ⟨o2, o3, o4, o5⟩
    · subst o2
      obtain ⟨F, rfl⟩ : ∃ k, F = k + 1 := ⟨F - 1, by omega⟩
      obtain ⟨G, rfl⟩ : ∃ k, G = k + 1 := ⟨G - 1, by omega⟩
      refine ⟨s + x, M', Q', r', ?_, ?_, b3, b4, b5, b6, K2, b8, b9⟩
      · rw [hcl]
        unfold f_X9_readRequests_b85
        rw [m1, if_pos (by omega), if_pos (by omega), if_pos (by omega)]
      · rw [hml]
        unfold f_X10_readRequests_b31
        rw [(TQ_k hT K2).1, if_pos (by omega), if_pos (by omega), if_pos (by omega)]
    · obtain ⟨y, M2, Q2, r2, i1, i2, i3, i4, i5, i6, i7, i8, i9⟩ := ih (t + 1) (e + 1) F G (s + x) B M' Q' r' o5 (by omega) (by omega) (by omega) b3 b4 b5 (TQ_k hT K2) m1 (by rw [b6 211 (by omega)]; exact hR) (by rw [b6 212 (by omega)]; exact hK) (by rw [b6 213 (by omega)]; exact hV) (fun j hj => by rw [b11]; exact hA'.2 j hj)
      refine ⟨y, M2, Q2, r2, by rw [hcl]; exact i1, by rw [hml]; exact i2, i3, i4, i5, Ks_tr b6 i6, Kr_tr K2 i7, fun j hj => by rw [i8 j hj, b8 j hj], by rw [i9, b9]⟩

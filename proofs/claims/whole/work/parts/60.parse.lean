def RqM (M M' : Mem) (t : Nat) : Prop := (∀ x, x < 210 ∨ 213 < x → M' x = M x) ∧ (∀ j, j ≠ 6 → M' 210 j = M 210 j) ∧ ∀ k, 211 ≤ k → k ≤ 213 → ∀ j, j ≠ t → M' k j = M k j
theorem RqM_id {M : Mem} {t : Nat} : RqM M M t := ⟨fun _ _ => rfl, fun _ _ => rfl, fun _ _ _ _ _ => rfl⟩
theorem RqM_n {M M1 M2 : Mem} {t : Nat} (h : RqM M M1 t) (h2 : Kn M1 M2) : RqM M M2 t := ⟨fun x hx => by rw [h2.1 x (by omega), h.1 x hx], fun j hj => by rw [h2.2 j hj, h.2.1 j hj], fun k k1 k2 j hj => by rw [h2.1 k (by omega), h.2.2 k k1 k2 j hj]⟩
theorem RqM_w {M M1 : Mem} {t k : Nat} {v : Int} (h : RqM M M1 t) (hk : 211 ≤ k ∧ k ≤ 213) : RqM M (wr M1 k t v) t := ⟨fun x hx => by rw [wr_ne (by omega), h.1 x hx], fun j hj => by rw [wr_ne (by omega), h.2.1 j hj], fun k2 k1 k3 j hj => by
  by_cases e : k2 = k
  · subst e; rw [wr_eq, up_ne hj, h.2.2 k2 k1 k3 j hj]
  · rw [wr_ne e, h.2.2 k2 k1 k3 j hj]⟩
theorem TX_q {M M' : Mem} {n t : Nat} {c : Nat → Int} (h : TX M n c) (hK : RqM M M' t) : TX M' n c := ⟨by rw [hK.2.1 0 (by decide)]; exact h.1, h.2.1, fun j hj => by rw [hK.1 214 (by decide)]; exact h.2.2.1 j hj, h.2.2.2⟩
def OneReq (c : Nat → Int) (n p e : Nat) (rd ky vl : Int) : Prop :=
  p + 3 ≤ e ∧ e ≤ n ∧ (0 ≤ rd ∧ rd ≤ 5 ∧ c p = 48 + rd) ∧ c (p + 1) = 58 ∧ ∃ k, NumRun c n (p + 2) 3 k ∧ ky = numv c (p + 2) k ∧ ((vl = -1 ∧ e = p + 2 + k ∧ ¬ (e < n ∧ c e = 61)) ∨ (p + 2 + k < n ∧ c (p + 2 + k) = 61 ∧ ∃ k2, NumRun c n (p + 3 + k) 4 k2 ∧ vl = numv c (p + 3 + k) k2 ∧ e = p + 3 + k + k2))
theorem p_bad {Q Q0 : Mem} {n q : Nat} {c : Nat → Int} {w k z : Int} (hT : TQ Q0 n c) (h : PS Q Q0 w k z) (hq : q ≤ n) (hw : inR w) (hk : inR k) (hend : w ≤ 1 ∨ k ≤ 0) (hrd : q < n → ∃ Q', f_X10_read (c q) Q = some (0, Q') ∧ PE Q' Q0) : ∃ Q', PE Q' Q0 ∧ ∀ F, f_X10_faultOf_b7 (F + 1) q Q = some ((q : Int), Q') := by
  by_cases e : q < n
  · obtain ⟨Q', i1, i2⟩ := hrd e
    exact ⟨Q', i2, fun F => p_on0 hT h e i1⟩
  · obtain rfl : q = n := by omega
    refine ⟨Q, ⟨w, k, z, h⟩, fun F => ?_⟩
    rw [p_end hT h hw hk, if_pos hend]
theorem x_req {M Q Q0 : Mem} {n p t : Nat} {c : Nat → Int} (hT : TX M n c) (hTQ : TQ Q0 n c) (hP : PS Q Q0 0 0 0) (h6 : M 210 6 = p) (hp : p ≤ n) (ht : t < 16) : ∃ (e : Nat) (x : Int) (M' : Mem), f_X5_parseRequest t M = some (x, M') ∧ RqM M M' t ∧ M' 210 6 = (e : Int) ∧ p ≤ e ∧ e ≤ n ∧ ((x = 0 ∧ ∃ Q', PE Q' Q0 ∧ ∀ G, n - p < G → f_X10_faultOf_b7 G p Q = some ((e : Int), Q')) ∨ (x = 1 ∧ OneReq c n p e (M' 211 t) (M' 212 t) (M' 213 t) ∧ ∃ Q' w k z, PS Q' Q0 w k z ∧ (w = 2 ∨ w = 3) ∧ (1 ≤ k ∧ k ≤ 4) ∧ (z = 0 ∨ z = 1) ∧ (e < n → Dg (c e) → z = 1 ∨ w + 1 ≤ k) ∧ (e < n → c e = 61 → w = 3) ∧ ∀ G, f_X10_faultOf_b7 (G + (e - p)) p Q = f_X10_faultOf_b7 G e Q')) := by
  have hn := hT.2.1
  have hc := hT.2.2.2
  unfold f_X5_parseRequest f_X5_parseRequest_b16 f_X5_parseRequest_b54 f_X5_parseRequest_b103
  rw [show (t : Int).toNat = t from rfl, q_isDigit hT h6 hp, zbS, bitR, bit0]
  by_cases d1 : p < n ∧ Dg (c p)
  · rw [if_pos d1, q_digit hT h6 d1.1, zbS, if_pos (by have := d1.2; omega)]
    have hdp := d1.2
    by_cases d2 : c p - 48 < 6
    · rw [if_pos d2, q_digit hT h6 d1.1, zbS, if_pos (by omega), zltS, zltS]
      have R1 : RqM M (wr M 211 t (c p - 48)) t := RqM_w RqM_id (by decide)
      have e1 : wr M 211 t (c p - 48) 210 6 = p := by rw [wr_ne (by decide)]; exact h6
      have R2 := RqM_n (M2 := wr (wr M 211 t (c p - 48)) 210 6 (wr M 211 t (c p - 48) 210 6 + 1)) R1 Kn_6
      have e2 : wr (wr M 211 t (c p - 48)) 210 6 (wr M 211 t (c p - 48) 210 6 + 1) 210 6 = ((p + 1 : Nat) : Int) := by rw [wr_eq, up_eq, e1]; rfl
      have v2 : wr (wr M 211 t (c p - 48)) 210 6 (wr M 211 t (c p - 48) 210 6 + 1) 211 t = c p - 48 := by rw [wr_ne (by decide), wr_eq, up_eq]
      revert R2 e2 v2
      generalize wr (wr M 211 t (c p - 48)) 210 6 (wr M 211 t (c p - 48) 210 6 + 1) = M2
      intro R2 e2 v2
      have T2 := TX_q hT R2
      obtain ⟨Q1, a1, a2⟩ := p_read0 hP (x := c p) (by omega)
      rw [if_pos (show 48 ≤ c p ∧ c p ≤ 53 by omega)] at a1
      have g1 : ∀ F, f_X10_faultOf_b7 (F + 1) p Q = f_X10_faultOf_b7 F ((p + 1 : Nat) : Int) Q1 := fun F => p_on1 hTQ hP d1.1 a1
      rw [q_skip (by decide) T2 e2 (by omega)]
      by_cases d3 : p + 1 < n ∧ c (p + 1) = 58
      · rw [if_pos d3, zbS, if_pos (by decide), if_neg (by decide)]
        have R3 := RqM_n (M2 := wr M2 210 6 ((p + 1 + 1 : Nat) : Int)) R2 Kn_6
        have e3 : wr M2 210 6 ((p + 1 + 1 : Nat) : Int) 210 6 = ((p + 2 : Nat) : Int) := by rw [wr_eq, up_eq]
        have v3 : wr M2 210 6 ((p + 1 + 1 : Nat) : Int) 211 t = c p - 48 := by rw [wr_ne (by decide), v2]
        revert R3 e3 v3
        generalize wr M2 210 6 ((p + 1 + 1 : Nat) : Int) = M3
        intro R3 e3 v3
        have T3 := TX_q hT R3
        obtain ⟨Q2, b1, b2⟩ := p_read1 a2 (x := c (p + 1)) (by have := hc (p + 1) (by omega); omega)
        rw [if_pos d3.2] at b1
        have g2 : ∀ F, f_X10_faultOf_b7 (F + 1 + 1) p Q = f_X10_faultOf_b7 F ((p + 2 : Nat) : Int) Q2 := fun F => by rw [g1]; exact p_on1 hTQ a2 d3.1 b1
        rw [q_isDigit T3 e3 (by omega), zbS, bitR, bit0]
        by_cases d4 : p + 2 < n ∧ Dg (c (p + 2))
        · rw [if_pos d4]
          obtain ⟨k, M4, c1, c2, c3, c4⟩ := q_num (mx := 3) (by decide) T3 e3 d4
          rw [show ((3 : Nat) : Int) = 3 from rfl] at c1
          have hk := c4
          obtain ⟨k1, k2, k3, k4, k5⟩ := hk
          have hkn := (k3 (k - 1) (by omega)).1
          rw [c1, zbS, zltS, zltS]
          have R4 := RqM_w (k := 213) (v := -1) (RqM_w (k := 212) (v := numv c (p + 2) k) (RqM_n R3 c2) (by decide)) (by decide)
          have e4 : wr (wr M4 212 t (numv c (p + 2) k)) 213 t (-1) 210 6 = ((p + 2 + k : Nat) : Int) := by rw [wr_ne (by decide), wr_ne (by decide), c3]
          have v4 : wr (wr M4 212 t (numv c (p + 2) k)) 213 t (-1) 211 t = c p - 48 := by rw [wr_ne (by decide), wr_ne (by decide), c2.1 211 (by decide), v3]
          have u4 : wr (wr M4 212 t (numv c (p + 2) k)) 213 t (-1) 212 t = numv c (p + 2) k := by rw [wr_ne (by decide), wr_eq, up_eq]
          have w4 : wr (wr M4 212 t (numv c (p + 2) k)) 213 t (-1) 213 t = -1 := by rw [wr_eq, up_eq]
          revert R4 e4 v4 u4 w4
          generalize wr (wr M4 212 t (numv c (p + 2) k)) 213 t (-1) = M5
          intro R4 e4 v4 u4 w4
          have T5 := TX_q hT R4
          obtain ⟨Q3, m1, m2⟩ := p_run (mx := 3) hTQ b2 (Or.inl ⟨rfl, rfl⟩) c4
          have g3 : ∀ F, f_X10_faultOf_b7 (F + (2 + k)) p Q = f_X10_faultOf_b7 F ((p + 2 + k : Nat) : Int) Q3 := fun F => by
            rw [show F + (2 + k) = F + k + 1 + 1 by omega, g2]; exact m2 F
          have hz : (if k = 1 ∧ c (p + 2) = 48 then (1 : Int) else 0) = 0 ∨ (if k = 1 ∧ c (p + 2) = 48 then (1 : Int) else 0) = 1 := by split <;> simp
          rw [q_skip (by decide) T5 e4 (by omega)]
          by_cases d5 : p + 2 + k < n ∧ c (p + 2 + k) = 61
          · rw [if_pos d5, zbS, if_pos (by decide), if_neg (by decide)]
            have R6 := RqM_n (M2 := wr M5 210 6 ((p + 2 + k + 1 : Nat) : Int)) R4 Kn_6
            have e6 : wr M5 210 6 ((p + 2 + k + 1 : Nat) : Int) 210 6 = ((p + 3 + k : Nat) : Int) := by rw [wr_eq, up_eq]; omega
            have v6 : wr M5 210 6 ((p + 2 + k + 1 : Nat) : Int) 211 t = c p - 48 := by rw [wr_ne (by decide), v4]
            have u6 : wr M5 210 6 ((p + 2 + k + 1 : Nat) : Int) 212 t = numv c (p + 2) k := by rw [wr_ne (by decide), u4]
            revert R6 e6 v6 u6
            generalize wr M5 210 6 ((p + 2 + k + 1 : Nat) : Int) = M6
            intro R6 e6 v6 u6
            have T6 := TX_q hT R6
            obtain ⟨Q4, n1, n2⟩ := p_readn m1 (x := c (p + 2 + k)) (Or.inl rfl) (by rw [d5.2]; decide) (by rw [d5.2]; decide) (by omega)
            rw [if_pos ⟨by omega, Or.inr ⟨d5.2, rfl⟩⟩] at n1
            rw [if_pos d5.2] at n2
            have g4 : ∀ F, f_X10_faultOf_b7 (F + (3 + k)) p Q = f_X10_faultOf_b7 F ((p + 3 + k : Nat) : Int) Q4 := fun F => by
              rw [show F + (3 + k) = F + 1 + (2 + k) by omega, g3, p_on1 hTQ m1 d5.1 n1, show p + 2 + k + 1 = p + 3 + k by omega]
            rw [q_isDigit T6 e6 (by omega), zbS, bitR, bit0]
            by_cases d6 : p + 3 + k < n ∧ Dg (c (p + 3 + k))
            · rw [if_pos d6]
              obtain ⟨j, M7, s1, s2, s3, s4⟩ := q_num (mx := 4) (by decide) T6 e6 d6
              rw [show ((4 : Nat) : Int) = 4 from rfl] at s1
              have hj := s4
              obtain ⟨j1, j2, j3, j4, j5⟩ := hj
              have hjn := (j3 (j - 1) (by omega)).1
              obtain ⟨Q5, o1, o2⟩ := p_run (mx := 4) hTQ n2 (Or.inr ⟨rfl, rfl⟩) s4
              rw [s1, zbS, zltS]
              refine ⟨p + 3 + k + j, 1, _, rfl, RqM_w (RqM_n R6 s2) (by decide), ?_, by omega, by omega, Or.inr ⟨rfl, ?_, Q5, 3, j, _, o1, Or.inr rfl, by omega, by split <;> simp, fun h1 h2 => ?_, fun _ _ => rfl, fun G => ?_⟩⟩
              · rw [wr_ne (by decide), s3]
              · rw [wr_ne (show 211 ≠ 213 by decide), wr_ne (show 212 ≠ 213 by decide), s2.1 211 (by decide), s2.1 212 (by decide), v6, u6, wr_eq, up_eq]
                exact ⟨by omega, by omega, by omega, d3.2, k, c4, rfl, Or.inr ⟨d5.1, d5.2, j, s4, rfl, rfl⟩⟩
              · rcases j5 with q | q | q
                · right; omega
                · left; rw [if_pos q]
                · exact absurd ⟨h1, h2⟩ q
              · rw [show G + (p + 3 + k + j - p) = G + j + (3 + k) by omega, g4]
                exact o2 G
            · rw [if_neg d6]
              obtain ⟨Q5, o1, o2⟩ := p_bad hTQ n2 (q := p + 3 + k) (by omega) (by decide) (by decide) (Or.inr (by decide)) (fun hq => by
                obtain ⟨Q5, y1, y2⟩ := p_readn n2 (x := c (p + 3 + k)) (Or.inr rfl) (fun q => d6 ⟨hq, q⟩) (by have := hc (p + 3 + k) (by omega); omega) (by decide)
                rw [if_neg (fun q => absurd q.1 (by decide))] at y1
                exact ⟨Q5, y1, _, _, _, y2⟩)
              refine ⟨p + 3 + k, 0, M6, rfl, R6, e6, by omega, by omega, Or.inl ⟨rfl, Q5, o1, fun G hG => ?_⟩⟩
              rw [show G = G - (3 + k) - 1 + 1 + (3 + k) by omega, g4]
              exact o2 _
          · rw [if_neg d5, zbS, if_pos (by decide), if_pos rfl]
            refine ⟨p + 2 + k, 1, M5, rfl, R4, e4, by omega, by omega, Or.inr ⟨rfl, ?_, Q3, 2, k, _, m1, Or.inl rfl, by omega, hz, fun h1 h2 => ?_, fun h1 h2 => absurd ⟨h1, h2⟩ d5, fun G => ?_⟩⟩
            · rw [v4, u4, w4]
              exact ⟨by omega, by omega, by omega, d3.2, k, c4, rfl, Or.inl ⟨rfl, rfl, d5⟩⟩
            · rcases k5 with q | q | q
              · right; omega
              · left; rw [if_pos q]
              · exact absurd ⟨h1, h2⟩ q
            · rw [show G + (p + 2 + k - p) = G + (2 + k) by omega]
              exact g3 G
        · rw [if_neg d4]
          obtain ⟨Q5, o1, o2⟩ := p_bad hTQ b2 (q := p + 2) (by omega) (by decide) (by decide) (Or.inr (by decide)) (fun hq => by
            obtain ⟨Q5, y1, y2⟩ := p_readn b2 (x := c (p + 2)) (Or.inl rfl) (fun q => d4 ⟨hq, q⟩) (by have := hc (p + 2) (by omega); omega) (by decide)
            rw [if_neg (fun q => absurd q.1 (by decide))] at y1
            exact ⟨Q5, y1, _, _, _, y2⟩)
          refine ⟨p + 2, 0, M3, rfl, R3, e3, by omega, by omega, Or.inl ⟨rfl, Q5, o1, fun G hG => ?_⟩⟩
          rw [show G = G - 3 + 1 + 1 + 1 by omega, g2]
          exact o2 _
      · rw [if_neg d3, zbS, if_pos (by decide), if_pos rfl]
        obtain ⟨Q5, o1, o2⟩ := p_bad hTQ a2 (q := p + 1) (by omega) (by decide) (by decide) (Or.inl (by decide)) (fun hq => by
          obtain ⟨Q5, y1, y2⟩ := p_read1 a2 (x := c (p + 1)) (by have := hc (p + 1) (by omega); omega)
          rw [if_neg (fun q => d3 ⟨hq, q⟩)] at y1
          exact ⟨Q5, y1, _, _, _, y2⟩)
        refine ⟨p + 1, 0, M2, rfl, R2, e2, by omega, by omega, Or.inl ⟨rfl, Q5, o1, fun G hG => ?_⟩⟩
        rw [show G = G - 2 + 1 + 1 by omega, g1]
        exact o2 _
    · rw [if_neg d2]
      obtain ⟨Q5, y1, y2⟩ := p_read0 hP (x := c p) (by omega)
      rw [if_neg (by omega)] at y1
      refine ⟨p, 0, M, rfl, RqM_id, h6, by omega, by omega, Or.inl ⟨rfl, Q5, ⟨_, _, _, y2⟩, fun G hG => ?_⟩⟩
      rw [show G = G - 1 + 1 by omega]
      exact p_on0 hTQ hP d1.1 y1
  · rw [if_neg d1]
    obtain ⟨Q5, o1, o2⟩ := p_bad hTQ hP (q := p) (by omega) (by decide) (by decide) (Or.inl (by decide)) (fun hq => by
      obtain ⟨Q5, y1, y2⟩ := p_read0 hP (x := c p) (by have := hc p (by omega); omega)
      rw [if_neg (fun q => d1 ⟨hq, by omega⟩)] at y1
      exact ⟨Q5, y1, _, _, _, y2⟩)
    refine ⟨p, 0, M, rfl, RqM_id, h6, by omega, by omega, Or.inl ⟨rfl, Q5, o1, fun G hG => ?_⟩⟩
    rw [show G = G - 1 + 1 by omega]
    exact o2 _
/-- the requests t.. of the rows stand in the text from p on -/
def ReqL (c : Nat → Int) (n : Nat) (R K V : Nat → Int) (d t p : Nat) : Prop := match d with
  | 0 => False
  | i + 1 => ∃ e, OneReq c n p e (R t) (K t) (V t) ∧ ((i = 0 ∧ e = n) ∨ (1 ≤ i ∧ e < n ∧ c e = 44 ∧ ReqL c n R K V i (t + 1) (e + 1)))
set_option maxRecDepth 20000 in
theorem x_parse_l {Q0 : Mem} {n : Nat} {c : Nat → Int} (hTQ : TQ Q0 n c) : ∀ (m p t F G : Nat) (M Q : Mem), n - p ≤ m → p ≤ n → 4 * t ≤ p → m < F → n - p < G → TX M n c → M 210 6 = p → M 210 1 = t → PS Q Q0 0 0 0 → ∃ x M' Q', f_X5_parse_b10 F M = some (x, M') ∧ f_X10_faultOf_b7 G p Q = some (x, Q') ∧ PE Q' Q0 ∧ ((∀ y, y < 210 ∨ 213 < y → M' y = M y) ∧ M' 210 0 = M 210 0 ∧ ∀ k, 211 ≤ k → k ≤ 213 → ∀ j, j < t → M' k j = M k j) ∧ ((0 ≤ x ∧ x ≤ 60) ∨ (x = -1 ∧ ∃ d, M' 210 1 = ((t + d : Nat) : Int) ∧ t + d ≤ 16 ∧ ReqL c n (M' 211) (M' 212) (M' 213) d t p)) := by
  intro m
  induction m with
  | zero =>
    intro p t F G M Q h1 h2 h3 hF hG hT h6 ht hP
    have hn := hT.2.1
    obtain ⟨F, rfl⟩ : ∃ k, F = k + 1 := ⟨F - 1, by omega⟩
    obtain ⟨e, x, M', i1, i2, i3, i4, i5, i6⟩ := x_req hT hTQ hP h6 h2 (t := t) (by omega)
    unfold f_X5_parse_b10 f_X5_parse_b67
    rw [ht, if_pos (by omega), if_neg (by omega), i1, zbS]
    rcases i6 with ⟨rfl, Q', j1, j2⟩ | ⟨rfl, j1, -⟩
    · rw [if_pos (by decide), if_pos rfl]
      refine ⟨_, M', Q', rfl, ?_, j1, ⟨i2.1, i2.2.1 0 (by decide), fun k k1 k2 j hj => i2.2.2 k k1 k2 j (by omega)⟩, Or.inl (by omega)⟩
      rw [i3]; exact j2 G hG
    · exfalso
      have := j1.1
      omega
  | succ m ih =>
    intro p t F G M Q h1 h2 h3 hF hG hT h6 ht hP
    have hn := hT.2.1
    have hc := hT.2.2.2
    obtain ⟨F, rfl⟩ : ∃ k, F = k + 1 := ⟨F - 1, by omega⟩
    obtain ⟨e, x, M', i1, i2, i3, i4, i5, i6⟩ := x_req hT hTQ hP h6 h2 (t := t) (by omega)
    unfold f_X5_parse_b10 f_X5_parse_b67
    rw [ht, if_pos (by omega), if_neg (by omega), i1, zbS]
    rcases i6 with ⟨rfl, Q', j1, j2⟩ | ⟨rfl, j1, Q', w, k, z, l1, l2, l3, l4, l5, l6, l7⟩
    · rw [if_pos (by decide), if_pos rfl]
      refine ⟨_, M', Q', rfl, ?_, j1, ⟨i2.1, i2.2.1 0 (by decide), fun k k1 k2 j hj => i2.2.2 k k1 k2 j (by omega)⟩, Or.inl (by omega)⟩
      rw [i3]; exact j2 G hG
    · have hp3 := j1.1
      have e1 : M' 210 1 = (t : Int) := by rw [i2.2.1 1 (by decide)]; exact ht
      have e0 : M' 210 0 = (n : Int) := by rw [i2.2.1 0 (by decide)]; exact hT.1
      rw [if_pos (by decide), if_neg (by decide), zltS, e1]
      have f6 : wr M' 210 1 ((t : Int) + 1) 210 6 = (e : Int) := by rw [wr_eq, up_ne (by decide), i3]
      have f0 : wr M' 210 1 ((t : Int) + 1) 210 0 = (n : Int) := by rw [wr_eq, up_ne (by decide), e0]
      have f1 : wr M' 210 1 ((t : Int) + 1) 210 1 = ((t + 1 : Nat) : Int) := by rw [wr_eq, up_eq]; rfl
      have fx : ∀ y, y ≠ 210 → wr M' 210 1 ((t : Int) + 1) y = M' y := fun y hy => wr_ne hy
      revert f6 f0 f1 fx
      generalize wr M' 210 1 ((t : Int) + 1) = M1
      intro f6 f0 f1 fx
      have T1 : TX M1 n c := ⟨f0, hn, fun j hj => by rw [fx 214 (by decide), i2.1 214 (by decide)]; exact hT.2.2.1 j hj, hc⟩
      have l7' := l7 (G - (e - p))
      rw [show G - (e - p) + (e - p) = G by omega] at l7'
      obtain ⟨G1, hG1⟩ : ∃ G1, G - (e - p) = G1 + 1 := ⟨G - (e - p) - 1, by omega⟩
      rw [hG1] at l7'
      rw [f6, f0, if_pos (by omega), if_pos (by omega)]
      have keep : ∀ y, y < 210 ∨ 213 < y → M1 y = M y := fun y hy => by rw [fx y (by omega), i2.1 y hy]
      by_cases c1 : e = n
      · rw [if_pos (by omega)]
        refine ⟨-1, M1, Q', rfl, ?_, ⟨w, k, z, l1⟩, ⟨keep, by rw [f0]; exact hT.1.symm, fun y y1 y2 j hj => by rw [fx y (by omega)]; exact i2.2.2 y y1 y2 j (by omega)⟩, Or.inr ⟨rfl, 1, f1, by omega, e, ?_, Or.inl ⟨rfl, c1⟩⟩⟩
        · rw [l7', c1, p_end hTQ l1 (by omega) (by omega), if_neg (by omega)]
        · rw [fx 211 (by decide), fx 212 (by decide), fx 213 (by decide)]; exact j1
      · rw [if_neg (by omega), q_skip (by decide) T1 f6 i5]
        have hen : e < n := by omega
        have hce := hc e (by omega)
        by_cases c2 : c e = 44
        · rw [if_pos ⟨hen, c2⟩, zbS, if_pos (by decide), if_neg (by decide)]
          obtain ⟨Q2, y1, y2⟩ := p_readn l1 (x := c e) l2 (by omega) (by omega) (by omega)
          rw [if_pos ⟨by omega, Or.inl c2⟩] at y1
          rw [if_neg (by omega)] at y2
          obtain ⟨x, M3, Q3, s1, s2, s3, ⟨s4, s5, s6⟩, s7⟩ := ih (e + 1) (t + 1) F G1 (wr M1 210 6 ((e + 1 : Nat) : Int)) Q2 (by omega) (by omega) (by omega) (by omega) (by omega) (TX_n T1 Kn_6) (by rw [wr_eq, up_eq]) (by rw [wr_eq, up_ne (by decide), f1]) y2
          have fr : ∀ y, 211 ≤ y → y ≤ 213 → ∀ j, j < t + 1 → M3 y j = M' y j := fun y y1 y2 j hj => by rw [s6 y y1 y2 j hj, wr_ne (by omega), fx y (by omega)]
          refine ⟨x, M3, Q3, s1, ?_, s3, ⟨fun y hy => by rw [s4 y hy, wr_ne (by omega), keep y hy], by rw [s5, wr_eq, up_ne (by decide), f0]; exact hT.1.symm, fun y y1 y2 j hj => by rw [fr y y1 y2 j (by omega)]; exact i2.2.2 y y1 y2 j (by omega)⟩, ?_⟩
          · rw [l7', p_on1 hTQ l1 hen y1]; exact s2
          · rcases s7 with s7 | ⟨s7, d, s8, s9, s10⟩
            · exact Or.inl s7
            · refine Or.inr ⟨s7, d + 1, by rw [s8]; omega, by omega, e, ?_, Or.inr ⟨?_, hen, c2, s10⟩⟩
              · rw [fr 211 (by decide) (by decide) t (by omega), fr 212 (by decide) (by decide) t (by omega), fr 213 (by decide) (by decide) t (by omega)]; exact j1
              · cases d with
                | zero => exact s10.elim
                | succ d => omega
        · rw [if_neg (fun q => c2 q.2), zbS, if_pos (by decide), if_pos rfl]
          have hr : ∃ Q2, f_X10_read (c e) Q' = some (0, Q2) ∧ PE Q2 Q0 := by
            by_cases c3 : Dg (c e)
            · exact p_readx l1 l2 c3 (by omega) l4 (l5 hen c3)
            · obtain ⟨Q2, y1, y2⟩ := p_readn l1 (x := c e) l2 c3 (by omega) (by omega)
              rw [if_neg (fun q => by rcases q.2 with q | q; exact c2 q; have := l6 hen q.1; omega)] at y1
              exact ⟨Q2, y1, _, _, _, y2⟩
          obtain ⟨Q2, y1, y2⟩ := hr
          refine ⟨_, M1, Q2, rfl, ?_, y2, ⟨keep, by rw [f0]; exact hT.1.symm, fun y y1 y2 j hj => by rw [fx y (by omega)]; exact i2.2.2 y y1 y2 j (by omega)⟩, Or.inl (by omega)⟩
          rw [f6, l7']
          exact p_on0 hTQ l1 hen y1
theorem x_parse {M Q : Mem} {n : Nat} {c : Nat → Int} (hT : TX M n c) (hTQ : TQ Q n c) : ∃ x M' Q', f_X5_parse M = some (x, M') ∧ f_X10_faultOf Q = some (x, Q') ∧ PE Q' Q ∧ ((∀ y, y < 210 ∨ 213 < y → M' y = M y) ∧ M' 210 0 = M 210 0) ∧ ((0 ≤ x ∧ x ≤ 60) ∨ (x = -1 ∧ ∃ d : Nat, M' 210 1 = (d : Int) ∧ d ≤ 16 ∧ ReqL c n (M' 211) (M' 212) (M' 213) d 0 0)) := by
  have hn := hT.2.1
  obtain ⟨Q1, a1, a2⟩ := p_begin (Q := Q) (Q0 := Q) (w := Q 215 12) (k := Q 215 13) (z := Q 215 14) ⟨fun _ _ => rfl, fun _ _ => rfl, rfl, rfl, rfl⟩ 0
  obtain ⟨x, M', Q', s1, s2, s3, ⟨s4, s5, -⟩, s7⟩ := x_parse_l hTQ n 0 0 100000 100000 (wr (wr M 210 6 0) 210 1 0) Q1 (by omega) (by omega) (by omega) (by omega) (by omega) ⟨by rw [wr_eq, up_ne (by decide), wr_eq, up_ne (by decide)]; exact hT.1, hn, fun j hj => by rw [wr_ne (by decide), wr_ne (by decide)]; exact hT.2.2.1 j hj, hT.2.2.2⟩ (by rw [wr_eq, up_ne (by decide), wr_eq, up_eq]; rfl) (by rw [wr_eq, up_eq]; rfl) a2
  refine ⟨x, M', Q', s1, ?_, s3, ⟨fun y hy => by rw [s4 y hy, wr_ne (by omega), wr_ne (by omega)], by rw [s5, wr_eq, up_ne (by decide), wr_eq, up_ne (by decide)]⟩, ?_⟩
  · unfold f_X10_faultOf
    rw [a1, zbS]
    exact s2
  · rcases s7 with s7 | ⟨s7, d, s8, s9, s10⟩
    · exact Or.inl s7
    · rw [Nat.zero_add] at s8 s9
      exact Or.inr ⟨s7, d, s8, s9, s10⟩

/-! the text: n characters c -/
abbrev Dg (x : Int) : Prop := 48 ≤ x ∧ x ≤ 57
def numv (c : Nat → Int) (p : Nat) (n : Nat) : Int := match n with
  | 0 => 0
  | k + 1 => numv c p k * 10 + (c (p + k) - 48)
theorem numv_s (c : Nat → Int) (p k : Nat) : numv c p (k + 1) = numv c p k * 10 + (c (p + k) - 48) := rfl
def lim (n : Nat) : Int := match n with
  | 0 => 0
  | k + 1 => 10 * lim k + 9
theorem numv_b {c : Nat → Int} {p : Nat} : ∀ k : Nat, (∀ j, j < k → Dg (c (p + j))) → 0 ≤ numv c p k ∧ numv c p k ≤ lim k := by
  intro k
  induction k with
  | zero => intro _; exact ⟨Int.le_refl _, Int.le_refl _⟩
  | succ k ih =>
    intro h
    have h1 := ih (fun j hj => h j (by omega))
    have h2 := h k (by omega)
    have h3 : lim (k + 1) = 10 * lim k + 9 := rfl
    rw [numv_s, h3]
    omega
theorem lim_b : ∀ k, k ≤ 4 → 0 ≤ lim k ∧ lim k ≤ 9999 := by decide
theorem lim_3 : ∀ k, k ≤ 3 → lim k ≤ 999 := by decide
def TX (M : Mem) (n : Nat) (c : Nat → Int) : Prop := M 210 0 = n ∧ n ≤ 60 ∧ (∀ j, j < 60 → M 214 j = c j) ∧ ∀ j, j < 60 → 0 ≤ c j ∧ c j ≤ 65535
def Kn (M M' : Mem) : Prop := (∀ x, x ≠ 210 → M' x = M x) ∧ ∀ j, j ≠ 6 → M' 210 j = M 210 j
theorem Kn_id {M : Mem} : Kn M M := ⟨fun _ _ => rfl, fun _ _ => rfl⟩
theorem Kn_tr {M M1 M2 : Mem} (h : Kn M M1) (h2 : Kn M1 M2) : Kn M M2 := ⟨fun x hx => by rw [h2.1 x hx, h.1 x hx], fun j hj => by rw [h2.2 j hj, h.2 j hj]⟩
theorem Kn_6 {M : Mem} {v : Int} : Kn M (wr M 210 6 v) := ⟨fun x hx => wr_ne hx, fun j hj => by rw [wr_eq, up_ne hj]⟩
theorem TX_n {M M' : Mem} {n : Nat} {c : Nat → Int} (h : TX M n c) (hK : Kn M M') : TX M' n c := ⟨by rw [hK.2 0 (by decide)]; exact h.1, h.2.1, fun j hj => by rw [hK.1 214 (by decide)]; exact h.2.2.1 j hj, h.2.2.2⟩
theorem TX_r {M : Mem} {n : Nat} {c : Nat → Int} (h : TX M n c) {k i : Nat} {v : Int} (hk : k = 211 ∨ k = 212 ∨ k = 213) : TX (wr M k i v) n c := ⟨by rw [wr_ne (by omega)]; exact h.1, h.2.1, fun j hj => by rw [wr_ne (by omega)]; exact h.2.2.1 j hj, h.2.2.2⟩
theorem q_digit {M : Mem} {n p : Nat} {c : Nat → Int} (h : TX M n c) (h6 : M 210 6 = p) (hp : p < n) : f_X5_digit M = some (c p - 48, M) := by
  have h1 := h.1
  have h2 := h.2.1
  have h3 := h.2.2.1 p (by omega)
  unfold f_X5_digit f_X5_digit_b27
  rw [h6, h1, if_pos (by omega), if_pos (by omega), if_neg (by omega), if_pos (by omega), show (p : Int).toNat = p from rfl, h3]
theorem q_isDigit {M : Mem} {n p : Nat} {c : Nat → Int} (h : TX M n c) (h6 : M 210 6 = p) (hp : p ≤ n) : f_X5_isDigit M = some (if p < n ∧ Dg (c p) then 1 else 0, M) := by
  have h1 := h.1
  have h2 := h.2.1
  unfold f_X5_isDigit f_X5_isDigit_b43 f_X5_isDigit_b44
  rw [h6, h1, if_pos (by omega), if_pos (by omega)]
  by_cases e : p < n
  · have h3 := h.2.2.1 p (by omega)
    have h4 := h.2.2.2 p (by omega)
    rw [if_neg (by omega), if_pos (by omega), show (p : Int).toNat = p from rfl, h3, if_pos (by omega)]
    by_cases e1 : c p < 48
    · rw [if_pos e1, if_pos (Or.inl rfl), if_neg (show ¬ (p < n ∧ Dg (c p)) by omega)]
    · rw [if_neg e1]
      by_cases e2 : 57 < c p
      · rw [if_pos e2, if_pos (Or.inl rfl), if_neg (show ¬ (p < n ∧ Dg (c p)) by omega)]
      · rw [if_neg e2, if_pos (Or.inr rfl), if_pos (show p < n ∧ Dg (c p) from ⟨e, by omega⟩)]
  · rw [if_pos (by omega), if_pos (Or.inl rfl), if_neg (fun q => e q.1)]
theorem q_skip {M : Mem} {n p : Nat} {c : Nat → Int} {v : Int} (hv : inR v) (h : TX M n c) (h6 : M 210 6 = p) (hp : p ≤ n) : f_X5_skip v M = if p < n ∧ c p = v then some (1, wr M 210 6 ((p + 1 : Nat) : Int)) else some (0, M) := by
  have h1 := h.1
  have h2 := h.2.1
  unfold f_X5_skip f_X5_skip_b36
  rw [h6, h1, if_pos (by omega), if_pos (by omega)]
  by_cases e : p < n
  · have h3 := h.2.2.1 p (by omega)
    have h4 := h.2.2.2 p (by omega)
    rw [if_neg (by omega), if_pos (by omega), show (p : Int).toNat = p from rfl, h3, if_pos (by omega), if_pos hv]
    by_cases e1 : c p = v
    · rw [if_pos e1, if_pos ⟨e, e1⟩, zltS]; rfl
    · rw [if_neg e1, if_neg (fun q => e1 q.2)]
  · rw [if_pos (by omega), if_neg (fun q => e q.1)]
/-- k digits from p on: as many as a number there may have -/
def NumRun (c : Nat → Int) (n p mx k : Nat) : Prop := 1 ≤ k ∧ k ≤ mx ∧ (∀ j, j < k → p + j < n ∧ Dg (c (p + j))) ∧ (2 ≤ k → c p ≠ 48) ∧ (k = mx ∨ (k = 1 ∧ c p = 48) ∨ ¬ (p + k < n ∧ Dg (c (p + k))))
set_option maxRecDepth 20000 in
theorem q_num_l {n p mx : Nat} {c : Nat → Int} (hmx : mx ≤ 4) : ∀ (d k F : Nat) (M : Mem), k + d = mx → d < F → 1 ≤ k → TX M n c → M 210 6 = ((p + k : Nat) : Int) → (∀ j, j < k → p + j < n ∧ Dg (c (p + j))) → (2 ≤ k → c p ≠ 48) → ∃ k' M', f_X5_parseNumber_b17 F mx (numv c p k) k M = some (numv c p k', M') ∧ Kn M M' ∧ M' 210 6 = ((p + k' : Nat) : Int) ∧ NumRun c n p mx k' := by
  intro d
  induction d with
  | zero =>
    intro k F M h1 h2 h3 hT h6 hd hz
    obtain ⟨F, rfl⟩ : ∃ k, F = k + 1 := ⟨F - 1, by omega⟩
    obtain rfl : k = mx := by omega
    refine ⟨k, M, ?_, Kn_id, h6, h3, Nat.le_refl _, hd, hz, Or.inl rfl⟩
    unfold f_X5_parseNumber_b17 f_X5_parseNumber_b59
    rw [if_pos (by omega), if_pos (by omega), if_pos (by omega)]
  | succ d ih =>
    intro k F M h1 h2 h3 hT h6 hd hz
    obtain ⟨F, rfl⟩ : ∃ k, F = k + 1 := ⟨F - 1, by omega⟩
    have hb := numv_b (c := c) (p := p) k (fun j hj => (hd j hj).2)
    have hl := lim_b k (by omega)
    have hpk := (hd (k - 1) (by omega)).1
    unfold f_X5_parseNumber_b17 f_X5_parseNumber_b59
    rw [if_pos (by omega), if_pos (by omega), if_neg (by omega), if_pos (by omega)]
    by_cases c1 : numv c p k ≤ 0
    · rw [if_pos c1]
      refine ⟨k, M, rfl, Kn_id, h6, h3, by omega, hd, hz, Or.inr (Or.inl ?_)⟩
      obtain ⟨k, rfl⟩ : ∃ i, k = i + 1 := ⟨k - 1, by omega⟩
      rw [numv_s] at c1 hb
      have hdk := (hd k (by omega)).2
      have hb2 := numv_b (c := c) (p := p) k (fun j hj => (hd j (by omega)).2)
      by_cases e : k = 0
      · subst e
        have e0 : numv c p 0 = 0 := rfl
        rw [e0] at c1 hb
        rw [Nat.add_zero] at hdk c1
        exact ⟨rfl, by omega⟩
      · exfalso
        -- the first digit is no zero, so the number is more than 0
        have hpos : ∀ i : Nat, 1 ≤ i → i ≤ k → 0 < numv c p i := by
          intro i
          induction i with
          | zero => intro h _; omega
          | succ i ih2 =>
            intro _ hi
            rw [numv_s]
            have hdi := (hd i (by omega)).2
            by_cases e2 : i = 0
            · subst e2
              have hz2 := hz (by omega)
              have hd0 := (hd 0 (by omega)).2
              rw [Nat.add_zero] at hd0 ⊢
              have e0 : numv c p 0 = 0 := rfl
              rw [e0]
              omega
            · have := ih2 (by omega) (by omega)
              omega
        have := hpos k (by omega) (Nat.le_refl _)
        omega
    · rw [if_neg c1, q_isDigit hT h6 (by omega), zbS, bitR, bit0]
      by_cases c2 : p + k < n ∧ Dg (c (p + k))
      · rw [if_pos c2, q_digit hT h6 c2.1, zbS, zltS, zltS, h6]
        have hz' : 2 ≤ k + 1 → c p ≠ 48 := by
          intro _
          by_cases e : k = 1
          · subst e
            intro q
            have e1 : numv c p 1 = 0 * 10 + (c (p + 0) - 48) := rfl
            rw [e1, Nat.add_zero] at c1
            omega
          · exact hz (by omega)
        obtain ⟨k', M', i1, i2, i3, i4⟩ := ih (k + 1) F (wr M 210 6 ((p + k : Nat) + 1 : Int)) (by omega) (by omega) (by omega) (TX_n hT Kn_6) (by rw [wr_eq, up_eq]; omega) (fun j hj => by
          by_cases e : j = k
          · rw [e]; exact c2
          · exact hd j (by omega)) hz'
        rw [numv_s] at i1
        push_cast at i1 ⊢
        exact ⟨k', M', i1, Kn_tr Kn_6 i2, by rw [i3]; push_cast; rfl, i4⟩
      · rw [if_neg c2]
        exact ⟨k, M, rfl, Kn_id, h6, h3, by omega, hd, hz, Or.inr (Or.inr c2)⟩
theorem q_num {M : Mem} {n p mx : Nat} {c : Nat → Int} (hmx : 1 ≤ mx ∧ mx ≤ 4) (hT : TX M n c) (h6 : M 210 6 = p) (hp : p < n ∧ Dg (c p)) : ∃ k M', f_X5_parseNumber mx M = some (numv c p k, M') ∧ Kn M M' ∧ M' 210 6 = ((p + k : Nat) : Int) ∧ NumRun c n p mx k := by
  obtain ⟨k, M', i1, i2, i3, i4⟩ := q_num_l (n := n) (p := p) (mx := mx) (c := c) hmx.2 (mx - 1) 1 100000 (wr M 210 6 ((p : Int) + 1)) (by omega) (by omega) (by omega) (TX_n hT Kn_6) (by rw [wr_eq, up_eq]; omega) (fun j hj => by
    obtain rfl : j = 0 := by omega
    exact hp) (fun q => by omega)
  refine ⟨k, M', ?_, Kn_tr Kn_6 i2, i3, i4⟩
  unfold f_X5_parseNumber
  rw [q_digit hT h6 hp.1, zbS, zltS, h6]
  rw [numv_s, show numv c p 0 = 0 from rfl, Nat.add_zero] at i1
  rw [show c p - 48 = 0 * 10 + (c p - 48) by omega]
  exact i1
/-! the model's reader of characters -/
def PS (Q Q0 : Mem) (w k z : Int) : Prop := (∀ x, x ≠ 215 → Q x = Q0 x) ∧ (∀ j, j < 12 ∨ 14 < j → Q 215 j = Q0 215 j) ∧ Q 215 12 = w ∧ Q 215 13 = k ∧ Q 215 14 = z
theorem p_begin {Q Q0 : Mem} {w k z : Int} (h : PS Q Q0 w k z) (v : Int) : ∃ Q', f_X10_begin v Q = some (0, Q') ∧ PS Q' Q0 v 0 0 := by
  refine ⟨wr (wr (wr Q 215 12 v) 215 13 0) 215 14 0, rfl, fun x hx => ?_, fun j hj => ?_, ?_, ?_, ?_⟩
  · rw [wr_ne hx, wr_ne hx, wr_ne hx]; exact h.1 x hx
  · rw [wr_eq, up_ne (by omega), wr_eq, up_ne (by omega), wr_eq, up_ne (by omega)]; exact h.2.1 j hj
  · simp [wr, up]
  · simp [wr, up]
  · simp [wr, up]
theorem p_read0 {Q Q0 : Mem} {k z x : Int} (h : PS Q Q0 0 k z) (hx : inR x) : ∃ Q', f_X10_read x Q = some (if 48 ≤ x ∧ x ≤ 53 then 1 else 0, Q') ∧ PS Q' Q0 1 0 0 := by
  obtain ⟨Q', i1, i2⟩ := p_begin h (0 + 1)
  refine ⟨Q', ?_, i2⟩
  unfold f_X10_read f_X10_read_b15 f_X10_read_b44
  rw [h.2.2.1, if_pos (by decide), if_pos rfl, if_pos (by decide), if_pos rfl, p_in hx (by decide) (by decide), zbS, h.2.2.1, i1, zbS, bit01]
theorem p_read1 {Q Q0 : Mem} {k z x : Int} (h : PS Q Q0 1 k z) (hx : inR x) : ∃ Q', f_X10_read x Q = some (if x = 58 then 1 else 0, Q') ∧ PS Q' Q0 2 0 0 := by
  obtain ⟨Q', i1, i2⟩ := p_begin h (1 + 1)
  refine ⟨Q', ?_, i2⟩
  unfold f_X10_read f_X10_read_b15 f_X10_read_b44
  rw [h.2.2.1, if_pos (by decide), if_neg (by decide), if_pos (by decide), if_pos (by decide), if_neg (by decide), if_pos hx]
  by_cases c : x = 58
  · rw [if_pos c, if_pos c, i1, zbS]; rfl
  · rw [if_neg c, if_neg c, i1, zbS]; rfl
theorem p_readd {Q Q0 : Mem} {w k x : Int} (h : PS Q Q0 w k 0) (hw : w = 2 ∨ w = 3) (hx : Dg x) (hk : 0 ≤ k ∧ k < w + 1) : ∃ Q', f_X10_read x Q = some (1, Q') ∧ PS Q' Q0 w (k + 1) (if k = 0 ∧ x = 48 then 1 else 0) := by
  obtain ⟨h1, h2, h3, h4, h5⟩ := h
  have fin : ∀ t : Int, t = 0 ∨ t = 1 → t = (if k = 0 ∧ x = 48 then 1 else 0) → ∃ Q', f_X10_read_b113 1 t Q = some (1, Q') ∧ PS Q' Q0 w (k + 1) (if k = 0 ∧ x = 48 then 1 else 0) := by
    intro t ht he
    refine ⟨wr (wr Q 215 14 t) 215 13 (k + 1), ?_, fun x hx => ?_, fun j hj => ?_, ?_, ?_, ?_⟩
    · unfold f_X10_read_b113
      rw [if_pos ht, zltS, zltS, if_pos (Or.inr rfl), wr_eq, up_ne (by decide), h4]
    · rw [wr_ne hx, wr_ne hx]; exact h1 x hx
    · rw [wr_eq, up_ne (by omega), wr_eq, up_ne (by omega)]; exact h2 j hj
    · simp [wr, up, h3]
    · simp [wr, up]
    · rw [← he]; simp [wr, up]
  unfold f_X10_read f_X10_read_b93 f_X10_read_b112
  rw [h3, if_pos (by omega), if_neg (by omega), if_neg (by omega), p_in (by omega) (by decide) (by decide), zbS, bitR, bit0, if_pos hx, h5, if_pos (by decide), if_pos rfl, h4, h3, if_pos (by omega), if_pos (by omega), if_neg (by omega), if_pos (by omega)]
  by_cases c1 : k = 0
  · rw [if_pos c1, if_pos (by omega)]
    by_cases c2 : x = 48
    · rw [if_pos c2]; exact fin 1 (Or.inr rfl) (by rw [if_pos ⟨c1, c2⟩])
    · rw [if_neg c2]; exact fin 0 (Or.inl rfl) (by rw [if_neg (fun q => c2 q.2)])
  · rw [if_neg c1]; exact fin 0 (Or.inl rfl) (by rw [if_neg (fun q => c1 q.1)])
abbrev PE (Q Q0 : Mem) : Prop := ∃ w k z, PS Q Q0 w k z
theorem p_readx {Q Q0 : Mem} {w k z x : Int} (h : PS Q Q0 w k z) (hw : w = 2 ∨ w = 3) (hx : Dg x) (hk : 0 ≤ k ∧ k ≤ 4) (hz : z = 0 ∨ z = 1) (hn : z = 1 ∨ w + 1 ≤ k) : ∃ Q', f_X10_read x Q = some (0, Q') ∧ PE Q' Q0 := by
  obtain ⟨h1, h2, h3, h4, h5⟩ := h
  have fin : ∀ t : Int, t = 0 ∨ t = 1 → ∃ Q', f_X10_read_b113 0 t Q = some (0, Q') ∧ PE Q' Q0 := by
    intro t ht
    refine ⟨wr (wr Q 215 14 t) 215 13 (k + 1), ?_, w, k + 1, t, fun x hx => ?_, fun j hj => ?_, ?_, ?_, ?_⟩
    · unfold f_X10_read_b113
      rw [if_pos ht, zltS, zltS, if_pos (Or.inl rfl), wr_eq, up_ne (by decide), h4]
    · rw [wr_ne hx, wr_ne hx]; exact h1 x hx
    · rw [wr_eq, up_ne (by omega), wr_eq, up_ne (by omega)]; exact h2 j hj
    · simp [wr, up, h3]
    · simp [wr, up]
    · simp [wr, up]
  have h92 : ∃ Q', f_X10_read_b92 x Q = some (0, Q') ∧ PE Q' Q0 := by
    unfold f_X10_read_b92 f_X10_read_b93 f_X10_read_b112
    rw [h4, if_pos (by omega)]
    by_cases c1 : k = 0
    · rw [if_pos c1, if_pos (by omega)]
      by_cases c2 : x = 48
      · rw [if_pos c2]; exact fin 1 (Or.inr rfl)
      · rw [if_neg c2]; exact fin 0 (Or.inl rfl)
    · rw [if_neg c1]; exact fin 0 (Or.inl rfl)
  unfold f_X10_read
  rw [h3, if_pos (by omega), if_neg (by omega), if_neg (by omega), p_in (by omega) (by decide) (by decide), zbS, bitR, bit0, if_pos hx, h5, if_pos (by omega)]
  by_cases c : z = 0
  · rw [if_pos c, h4, h3, if_pos (by omega), if_pos (by omega), if_pos (by omega)]; exact h92
  · rw [if_neg c]; exact h92
theorem p_readn {Q Q0 : Mem} {w k z x : Int} (h : PS Q Q0 w k z) (hw : w = 2 ∨ w = 3) (hx : ¬ Dg x) (hxr : inR x) (hk : 0 ≤ k ∧ k ≤ 4) : ∃ Q', f_X10_read x Q = some (if 0 < k ∧ (x = 44 ∨ (x = 61 ∧ w = 2)) then 1 else 0, Q') ∧ PS Q' Q0 (if x = 61 then 3 else 0) 0 0 := by
  have h0 := h
  obtain ⟨h1, h2, h3, h4, h5⟩ := h
  have fin : ∀ t : Int, t = 0 ∨ t = 1 → ∃ Q', f_X10_read_b160 x t Q = some (t, Q') ∧ PS Q' Q0 (if x = 61 then 3 else 0) 0 0 := by
    intro t ht
    unfold f_X10_read_b160 f_X10_read_b173
    rw [if_pos hxr]
    by_cases c : x = 61
    · obtain ⟨Q', i1, i2⟩ := p_begin h0 3
      rw [if_pos c, if_pos c, i1, zbS, if_pos ht]
      exact ⟨Q', rfl, i2⟩
    · obtain ⟨Q', i1, i2⟩ := p_begin h0 0
      rw [if_neg c, if_neg c, i1, zbS, if_pos ht]
      exact ⟨Q', rfl, i2⟩
  unfold f_X10_read f_X10_read_b155 f_X10_read_b159
  rw [h3, if_pos (by omega), if_neg (by omega), if_neg (by omega), p_in hxr (by decide) (by decide), zbS, bitR, bit0, if_neg hx, h4, if_pos (by omega)]
  by_cases c1 : k ≤ 0
  · rw [if_pos c1, if_neg (show ¬ (0 < k ∧ (x = 44 ∨ (x = 61 ∧ w = 2))) by omega)]
    exact fin 0 (Or.inl rfl)
  · rw [if_neg c1, if_pos hxr]
    by_cases c2 : x = 44
    · rw [if_pos c2, if_pos (show 0 < k ∧ (x = 44 ∨ (x = 61 ∧ w = 2)) from ⟨by omega, Or.inl c2⟩)]
      exact fin 1 (Or.inr rfl)
    · rw [if_neg c2]
      by_cases c3 : x = 61
      · rw [if_pos c3, h3, if_pos (by omega)]
        by_cases c4 : w = 2
        · rw [if_pos c4, if_pos (show 0 < k ∧ (x = 44 ∨ (x = 61 ∧ w = 2)) from ⟨by omega, Or.inr ⟨c3, c4⟩⟩)]
          exact fin 1 (Or.inr rfl)
        · rw [if_neg c4, if_neg (show ¬ (0 < k ∧ (x = 44 ∨ (x = 61 ∧ w = 2))) by omega)]
          exact fin 0 (Or.inl rfl)
      · rw [if_neg c3, if_neg (show ¬ (0 < k ∧ (x = 44 ∨ (x = 61 ∧ w = 2))) by omega)]
        exact fin 0 (Or.inl rfl)
/-! the model's walk over the characters -/
def TQ (Q0 : Mem) (n : Nat) (c : Nat → Int) : Prop := Q0 215 4 = n ∧ n ≤ 60 ∧ (∀ j, j < 60 → Q0 217 j = c j) ∧ ∀ j, j < 60 → 0 ≤ c j ∧ c j ≤ 65535
theorem p_on1 {Q Q0 Q' : Mem} {n p F : Nat} {c : Nat → Int} {w k z : Int} (hT : TQ Q0 n c) (h : PS Q Q0 w k z) (hp : p < n) (hr : f_X10_read (c p) Q = some (1, Q')) : f_X10_faultOf_b7 (F + 1) p Q = f_X10_faultOf_b7 F ((p + 1 : Nat) : Int) Q' := by
  have e4 : Q 215 4 = n := by rw [h.2.1 4 (by decide)]; exact hT.1
  have e7 : Q 217 (p : Int).toNat = c p := by rw [h.1 217 (by decide)]; exact hT.2.2.1 p (by have := hT.2.1; omega)
  have h60 := hT.2.1
  conv => lhs; unfold f_X10_faultOf_b7
  rw [e4, if_pos (by omega), if_pos (by omega), if_neg (by omega), if_pos (by omega), e7, hr, zbS, if_pos (by decide), if_neg (by decide)]
  rfl
theorem p_on0 {Q Q0 Q' : Mem} {n p F : Nat} {c : Nat → Int} {w k z : Int} (hT : TQ Q0 n c) (h : PS Q Q0 w k z) (hp : p < n) (hr : f_X10_read (c p) Q = some (0, Q')) : f_X10_faultOf_b7 (F + 1) p Q = some ((p : Int), Q') := by
  have e4 : Q 215 4 = n := by rw [h.2.1 4 (by decide)]; exact hT.1
  have e7 : Q 217 (p : Int).toNat = c p := by rw [h.1 217 (by decide)]; exact hT.2.2.1 p (by have := hT.2.1; omega)
  have h60 := hT.2.1
  unfold f_X10_faultOf_b7
  rw [e4, if_pos (by omega), if_pos (by omega), if_neg (by omega), if_pos (by omega), e7, hr, zbS, if_pos (by decide), if_pos rfl]
theorem p_end {Q Q0 : Mem} {n F : Nat} {c : Nat → Int} {w k z : Int} (hT : TQ Q0 n c) (h : PS Q Q0 w k z) (hw : inR w) (hk : inR k) : f_X10_faultOf_b7 (F + 1) n Q = some (if w ≤ 1 ∨ k ≤ 0 then (n : Int) else -1, Q) := by
  have e4 : Q 215 4 = n := by rw [h.2.1 4 (by decide)]; exact hT.1
  have h60 := hT.2.1
  unfold f_X10_faultOf_b7 f_X10_faultOf_b55 f_X10_faultOf_b59
  rw [e4, if_pos (by omega), if_pos (by omega), if_pos (by omega), h.2.2.1, if_pos hw]
  by_cases c1 : w ≤ 1
  · rw [if_pos c1, if_pos (Or.inl c1)]
  · rw [if_neg c1, h.2.2.2.1, if_pos hk]
    by_cases c2 : k ≤ 0
    · rw [if_pos c2, if_pos (Or.inr c2)]
    · rw [if_neg c2, if_neg (by omega)]
theorem p_run {Q Q0 : Mem} {n p mx k : Nat} {c : Nat → Int} {w : Int} (hT : TQ Q0 n c) (h : PS Q Q0 w 0 0) (hw : (w = 2 ∧ mx = 3) ∨ (w = 3 ∧ mx = 4)) (hR : NumRun c n p mx k) : ∃ Q', PS Q' Q0 w k (if k = 1 ∧ c p = 48 then 1 else 0) ∧ ∀ F, f_X10_faultOf_b7 (F + k) p Q = f_X10_faultOf_b7 F ((p + k : Nat) : Int) Q' := by
  obtain ⟨r1, r2, r3, r4, -⟩ := hR
  have key : ∀ i : Nat, i ≤ k → ∃ Q', PS Q' Q0 w i (if i = 1 ∧ c p = 48 then 1 else 0) ∧ ∀ F, f_X10_faultOf_b7 (F + i) p Q = f_X10_faultOf_b7 F ((p + i : Nat) : Int) Q' := by
    intro i
    induction i with
    | zero =>
      intro _
      refine ⟨Q, ?_, fun F => rfl⟩
      rw [if_neg (by omega)]
      exact h
    | succ i ih =>
      intro hi
      obtain ⟨Q1, j1, j2⟩ := ih (by omega)
      have hd := r3 i (by omega)
      have z0 : (if i = 1 ∧ c p = 48 then (1 : Int) else 0) = 0 := if_neg (fun q => r4 (by omega) q.2)
      rw [z0] at j1
      obtain ⟨Q2, m1, m2⟩ := p_readd j1 (by omega) hd.2 (by omega)
      refine ⟨Q2, ?_, fun F => ?_⟩
      · have e : (if (i : Int) = 0 ∧ c (p + i) = 48 then (1 : Int) else 0) = if i + 1 = 1 ∧ c p = 48 then 1 else 0 := by
          by_cases e0 : i = 0
          · subst e0
            simp
          · rw [if_neg (by omega), if_neg (by omega)]
        rw [e] at m2
        rw [show ((i + 1 : Nat) : Int) = (i : Int) + 1 by omega]
        exact m2
      · have h2 := j2 (F + 1)
        rw [show F + (i + 1) = F + 1 + i by omega, h2]
        exact p_on1 hT j1 hd.1 m1
  exact key k (Nat.le_refl _)

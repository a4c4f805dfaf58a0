/-! marks of pastures: a whole number's bits -/
def tb (m p : Nat) : Int := if m.testBit p then 1 else 0
def pop (m : Nat) : Int := tb m 0 + tb m 1 + tb m 2 + tb m 3 + tb m 4 + tb m 5 + tb m 6 + tb m 7
theorem tb_b (m p : Nat) : 0 ≤ tb m p ∧ tb m p ≤ 1 := by
  unfold tb
  split <;> omega
theorem pop_b (m : Nat) : 0 ≤ pop m ∧ pop m ≤ 8 := by
  have := tb_b m 0; have := tb_b m 1; have := tb_b m 2; have := tb_b m 3
  have := tb_b m 4; have := tb_b m 5; have := tb_b m 6; have := tb_b m 7
  unfold pop
  omega
set_option maxRecDepth 100000 in
theorem bit_is : ∀ m, m < 256 → ∀ p, p < 8 → iand (ishr (m : Nat) (p : Nat)) 1 = tb m p := by decide +kernel
set_option maxRecDepth 100000 in
theorem bit_set : ∀ m, m < 256 → ∀ p, p < 8 → ior (m : Nat) (ishl 1 (p : Nat)) = ((m ||| 2 ^ p : Nat) : Int) ∧ (m ||| 2 ^ p) < 256 ∧ (tb m p = 0 → pop (m ||| 2 ^ p) = pop m + 1) := by decide +kernel
set_option maxRecDepth 100000 in
theorem bit_put : ∀ m, m < 256 → ∀ p, p < 8 → ∀ q, q < 8 → tb (m ||| 2 ^ p) q = if q = p then 1 else tb m q := by decide +kernel
theorem ior_is {m n : Nat} (hm : m < 256) (hn : n < 256) : ior (m : Nat) (n : Nat) = ((m ||| n : Nat) : Int) := by
  have hl : m ||| n < 2 ^ 8 := Nat.or_lt_two_pow (by omega) (by omega)
  have e : (zI (m : Nat) ||| zI (n : Nat)) = zI ((m ||| n : Nat) : Int) := by
    apply Int32.toBitVec_inj.mp
    apply BitVec.eq_of_toNat_eq
    have e1 : (zI (m : Nat) ||| zI (n : Nat)).toBitVec.toNat = (BitVec.ofInt 32 (m : Nat)).toNat ||| (BitVec.ofInt 32 (n : Nat)).toNat := rfl
    have e2 : (zI ((m ||| n : Nat) : Int)).toBitVec.toNat = (BitVec.ofInt 32 ((m ||| n : Nat) : Int)).toNat := rfl
    rw [e1, e2, BitVec.toNat_ofInt, BitVec.toNat_ofInt, BitVec.toNat_ofInt]
    have f : ∀ x : Nat, x < 256 → ((x : Int) % ((2 ^ 32 : Nat) : Int)).toNat = x := by intro x hx; omega
    rw [f m hm, f n hn, f _ (by omega)]
  unfold ior
  rw [e, zI_toInt (by omega)]
theorem tb_or (m n p : Nat) : tb (m ||| n) p = if tb m p = 1 ∨ tb n p = 1 then 1 else 0 := by
  unfold tb
  rw [Nat.testBit_or]
  cases m.testBit p <;> cases n.testBit p <;> simp
theorem or_lt {m n : Nat} (hm : m < 256) (hn : n < 256) : m ||| n < 256 := Nat.or_lt_two_pow (n := 8) (by omega) (by omega)
/-! the next inn that is told -/
def dlF (r : Row) (x p : Int) : Int := iabs (r (0 + 4 * x).toNat - r (0 + 4 * p).toNat)
theorem dlF_b {B : Int} {r : Row} (W : WF1 B r) {x p : Int} (hx : 0 ≤ x ∧ x < 8) (hp : 0 ≤ p ∧ p < 8) : 0 ≤ dlF r x p ∧ dlF r x p ≤ 90 := by
  have h1 := WF1_lat W hx.1 hx.2
  have h2 := WF1_lat W hp.1 hp.2
  unfold dlF iabs
  split <;> omega
def ninF (r : Row) (p : Int) (Z : Nat) (n : Nat) : Int := match n with
  | 0 => -5
  | k + 1 => if ((k : Int) ≠ p ∧ r ((0 + 4 * (k : Int)) + 2).toNat = 1 ∧ tb Z k = 0) ∧ (ninF r p Z k = -5 ∨ dlF r (k : Int) p < dlF r (ninF r p Z k) p) then (k : Int) else ninF r p Z k
theorem ninF_s (r : Row) (p : Int) (Z k : Nat) : ninF r p Z (k + 1) = if ((k : Int) ≠ p ∧ r ((0 + 4 * (k : Int)) + 2).toNat = 1 ∧ tb Z k = 0) ∧ (ninF r p Z k = -5 ∨ dlF r (k : Int) p < dlF r (ninF r p Z k) p) then (k : Int) else ninF r p Z k := rfl
theorem ninF_b (r : Row) (p : Int) (Z n : Nat) : ninF r p Z n = -5 ∨ ((0 ≤ ninF r p Z n ∧ ninF r p Z n < n) ∧ tb Z (ninF r p Z n).toNat = 0) := by
  induction n with
  | zero => exact Or.inl rfl
  | succ n ih =>
    rw [ninF_s]
    split
    · rename_i c
      exact Or.inr ⟨by omega, c.1.2.2⟩
    · rcases ih with h | h
      · exact Or.inl h
      · exact Or.inr ⟨by omega, h.2⟩
set_option maxRecDepth 20000 in
theorem q_nin_l {B : Int} {k b : Nat} {M : Mem} {r : Row} (hk : k = b + 3) (hS : ST0 M b r) (W : WF1 B r) {p : Int} (hp : 0 ≤ p ∧ p < 8) {A S : Nat} (h208 : ∀ x, x < 8 → M 208 x = tb A x) (h209 : ∀ x, x < 8 → M 209 x = tb S x) {N : Nat} (hN : r 863 = N) (h8 : N ≤ 8) : ∀ (d v F : Nat) (x : Int), v + d = N → d < F → x = (if ninF r p (A ||| S) v = -5 then 91 else dlF r (ninF r p (A ||| S) v) p) → f_X6_nearestNewInn_b10 k F p (ninF r p (A ||| S) v) x v M = some (ninF r p (A ||| S) N, M) := by
  subst hk
  have hnp := hS.np
  intro d
  induction d with
  | zero =>
    intro v F x h1 h2 hx
    obtain ⟨F, rfl⟩ : ∃ k, F = k + 1 := ⟨F - 1, by omega⟩
    obtain rfl : v = N := by omega
    unfold f_X6_nearestNewInn_b10
    rw [if_pos (by omega), if_pos (by omega), if_pos (by omega)]
  | succ d ih =>
    intro v F x h1 h2 hx
    obtain ⟨F, rfl⟩ : ∃ k, F = k + 1 := ⟨F - 1, by omega⟩
    have h3 := ih (v + 1) F
    push_cast at h3
    have hv : 0 ≤ (v : Int) ∧ (v : Int) < 8 := by omega
    have l1 := WF1_lat W hv.1 hv.2
    have l2 := WF1_lat W hp.1 hp.2
    have li := WF1_inn W hv.1 hv.2
    have hb := ninF_b r p (A ||| S) v
    have hdl := dlF_b W hv hp
    have a1 := hS.inn hv.1 hv.2
    have a2 := hS.lat hp.1 hp.2
    simp only [enc, Bool.false_eq_true, if_false] at a1 a2
    have a3 : M 208 (v : Int).toNat = tb A v := h208 v (by omega)
    have a4 : M 209 (v : Int).toNat = tb S v := h209 v (by omega)
    have t1 := tb_b A v
    have t2 := tb_b S v
    have hskip : ninF r p (A ||| S) (v + 1) = ninF r p (A ||| S) v → f_X6_nearestNewInn_b10 (b + 3) F p (ninF r p (A ||| S) v) x ((v : Int) + 1) M = some (ninF r p (A ||| S) N, M) := by
      intro e
      rw [e] at h3
      exact h3 x (by omega) (by omega) hx
    have hs0 : ¬ ((v : Int) ≠ p ∧ r ((0 + 4 * (v : Int)) + 2).toNat = 1 ∧ tb (A ||| S) v = 0) → f_X6_nearestNewInn_b10 (b + 3) F p (ninF r p (A ||| S) v) x ((v : Int) + 1) M = some (ninF r p (A ||| S) N, M) := fun c => hskip (by rw [ninF_s, if_neg (fun q => c q.1)])
    have hno : ¬ (r ((0 + 4 * (v : Int)) + 2).toNat = 1 ∧ tb (A ||| S) v = 0) → f_X6_nearestNewInn_b53 (f_X6_nearestNewInn_b10 (b + 3) F) (b + 3) p (ninF r p (A ||| S) v) x v M = some (ninF r p (A ||| S) N, M) := by
      intro c
      unfold f_X6_nearestNewInn_b53 f_X6_nearestNewInn_b54 f_X6_nearestNewInn_b101
      rw [if_pos (by omega), if_pos (by omega)]
      by_cases c1 : (v : Int) = p
      · rw [if_pos c1]; exact hs0 (fun q => q.1 c1)
      · rw [if_neg c1, if_pos (by decide), if_pos rfl]; exact hs0 (fun q => c q.2)
    have hor := tb_or A S v
    unfold f_X6_nearestNewInn_b10
    rw [show b + 3 + 5 = b + 8 from rfl, a1, a3, a4, hnp, if_pos (by omega), if_pos (by omega), if_neg (by omega), if_pos (by omega), if_pos (by omega)]
    by_cases c2 : r ((0 + 4 * (v : Int)) + 2).toNat = 1
    · rw [if_neg (by omega), if_pos (by omega)]
      by_cases c3 : tb S v = 0
      · rw [if_pos c3, if_pos (by omega)]
        by_cases c4 : tb A v = 0
        · have c5 : tb (A ||| S) v = 0 := by rw [hor, if_neg (by omega)]
          rw [if_pos c4]
          unfold f_X6_nearestNewInn_b54 f_X6_nearestNewInn_b101
          rw [if_pos (by omega), if_pos (by omega)]
          by_cases c1 : (v : Int) = p
          · rw [if_pos c1]; exact hs0 (fun q => q.1 c1)
          · have hdd : ∀ M' : Mem, M' = M → f_X2_distance (b + 3) v (M' (b + 3 + 1) p.toNat) M = some (dlF r v p, M) := by
              intro M' e
              rw [e, show b + 3 + 1 = b + 4 from rfl, a2, q_distance (k := b + 3) rfl hS W hv.1 hv.2 (by omega)]
              rfl
            have hxb : 0 ≤ x ∧ x ≤ 91 := by
              rw [hx]
              split
              · omega
              · have := dlF_b W (x := ninF r p (A ||| S) v) (p := p) (by omega) hp
                omega
            rw [if_neg c1, if_pos (by decide), if_neg (by decide), if_pos hp, hdd M rfl, zbS, if_pos (by omega), if_pos (by omega)]
            by_cases c6 : x ≤ dlF r v p
            · rw [if_pos c6]
              refine hskip ?_
              rw [ninF_s, if_neg]
              intro q
              rcases q.2 with q | q
              · rw [if_pos q] at hx; omega
              · by_cases c7 : ninF r p (A ||| S) v = -5
                · rw [if_pos c7] at hx; omega
                · rw [if_neg c7] at hx; omega
            · rw [if_neg c6, hdd M rfl, zbS]
              have e : ninF r p (A ||| S) (v + 1) = v := by
                rw [ninF_s, if_pos]
                refine ⟨⟨c1, c2, c5⟩, ?_⟩
                by_cases c7 : ninF r p (A ||| S) v = -5
                · exact Or.inl c7
                · rw [if_neg c7] at hx
                  right; omega
              rw [e] at h3
              exact h3 _ (by omega) (by omega) (by rw [if_neg (by omega)])
        · rw [if_neg c4]
          exact hno (fun q => by rw [hor, if_pos (by omega)] at q; omega)
      · rw [if_neg c3]
        exact hno (fun q => by rw [hor, if_pos (by omega)] at q; omega)
    · rw [if_pos (by omega)]
      exact hno (fun q => c2 q.1)
theorem q_nin {B : Int} {k b : Nat} {M : Mem} {r : Row} (hk : k = b + 3) (hS : ST0 M b r) (W : WF1 B r) {p : Int} (hp : 0 ≤ p ∧ p < 8) {A S : Nat} (h208 : ∀ x, x < 8 → M 208 x = tb A x) (h209 : ∀ x, x < 8 → M 209 x = tb S x) {N : Nat} (hN : r 863 = N) (h8 : N ≤ 8) : f_X6_nearestNewInn k p M = some (ninF r p (A ||| S) N, M) :=
  q_nin_l hk hS W hp h208 h209 hN h8 N 0 100000 91 (by omega) (by omega) rfl

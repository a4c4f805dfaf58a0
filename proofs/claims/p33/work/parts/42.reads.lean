theorem bit0 {c : Prop} {h : Decidable c} {α : Type} (x y : α) : (if (if c then (1 : Int) else 0) = 0 then x else y) = if c then y else x := by
  by_cases q : c
  · rw [if_pos q, if_pos q, if_neg (by decide)]
  · rw [if_neg q, if_neg q, if_pos rfl]
theorem bitR {c : Prop} {h : Decidable c} {α : Type} (x y : α) : (if inR (if c then (1 : Int) else 0) then x else y) = x := if_pos (by split <;> decide)
theorem bit01 {c : Prop} {h : Decidable c} {α : Type} (x y : α) : (if (if c then (1 : Int) else 0) = 0 ∨ (if c then (1 : Int) else 0) = 1 then x else y) = x := if_pos (by split <;> simp)
theorem q_in {v a b : Int} (hv : inR v) (ha : inR a) (hb : inR b) (M : Mem) : f_X9_isWithin v a b M = some (if a ≤ v ∧ v ≤ b then 1 else 0, M) := by
  unfold f_X9_isWithin f_X9_isWithin_b14 f_X9_isWithin_b15
  repeat' split
  all_goals first | rfl | (exfalso; omega)
theorem q_cell (a b : Int) (M : Mem) : f_X9_cell a b M = some (a * 16 + b, M) := rfl
theorem ite_c {α : Type} {c d : Prop} {h : Decidable c} {h' : Decidable d} (e : c ↔ d) (x y : α) : (if c then x else y) = if d then x else y := by
  by_cases q : c
  · rw [if_pos q, if_pos (e.mp q)]
  · rw [if_neg q, if_neg (fun z => q (e.mpr z))]
theorem q_isPasture {v : Int} {M : Mem} (hv : inR v) (h1 : 1 ≤ M 4 0 ∧ M 4 0 ≤ 8) : f_X9_isPasture v M = some (if 0 ≤ v ∧ v < M 4 0 then 1 else 0, M) := by
  unfold f_X9_isPasture
  rw [q_in hv (by omega) (by omega)]
  simp only [zbnd, bit01]
  rw [ite_c]
  omega
theorem q_isReader {v : Int} {M : Mem} (hv : inR v) (h1 : 0 ≤ M 22 0 ∧ M 22 0 ≤ 6) : f_X9_isReader v M = some (if 0 ≤ v ∧ v < M 22 0 then 1 else 0, M) := by
  unfold f_X9_isReader
  rw [q_in hv (by omega) (by omega)]
  simp only [zbnd, bit01]
  rw [ite_c]
  omega
theorem q_isShard {v : Int} {M : Mem} (hv : inR v)  : f_X9_isShard v M = some (if 0 ≤ v ∧ v < 16 then 1 else 0, M) := by
  unfold f_X9_isShard
  rw [q_in hv (by omega) (by omega)]
  simp only [zbnd, bit01]
  rw [ite_c]
  omega
theorem q_isKey {v : Int} {M : Mem} (hv : inR v)  : f_X9_isKey v M = some (if 0 ≤ v ∧ v < 256 then 1 else 0, M) := by
  unfold f_X9_isKey
  rw [q_in hv (by omega) (by omega)]
  simp only [zbnd, bit01]
  rw [ite_c]
  omega
theorem q_isAt {k b : Nat} {p h : Int} {M : Mem} {r : Row} (hk : k = b + 10) (hS : ST0 M b r) (hp : 0 ≤ p ∧ p < 8) (hh : 0 ≤ h ∧ h < 16) (hr : 0 ≤ r (160 + 16 * p + h).toNat ∧ r (160 + 16 * p + h).toNat ≤ 8) : f_X8_isAt k p h M = some (if 0 < r (160 + 16 * p + h).toNat then 1 else 0, M) := by
  subst hk
  unfold f_X8_isAt f_X8_isAt_b20
  rw [q_cell]
  simp only [zbnd, Nat.add_assoc, Nat.reduceAdd]
  have h1 := hS.lead (p := p * 16 + h) (by omega) (by omega)
  rw [show (160 + (p * 16 + h)).toNat = (160 + 16 * p + h).toNat by omega] at h1
  rw [if_pos (by omega), h1]
  simp only [enc, if_true]
  by_cases h2 : r (160 + 16 * p + h).toNat = 0
  · simp [h2]
  · have h5 : 0 < r (160 + 16 * p + h).toNat := by omega
    have h6 : ¬ r (160 + 16 * p + h).toNat - 1 = -5 := by omega
    rw [if_neg h2, if_pos (by omega)]
    simp [h5, h6]
def trkIn (r : Row) (p : Int) (n : Nat) : Int := sumN n fun h => if 0 < r (160 + 16 * p + (h : Int)).toNat then 1 else 0
theorem trkIn_s (r : Row) (p : Int) (n : Nat) : trkIn r p (n + 1) = trkIn r p n + (if 0 < r (160 + 16 * p + (n : Int)).toNat then 1 else 0) := rfl
set_option maxRecDepth 20000 in
theorem q_countIn_l {k b : Nat} {p : Int} {M : Mem} {r : Row} (hk : k = b + 10) (hS : ST0 M b r) (hp : 0 ≤ p ∧ p < 8) (hr : ∀ h : Int, 0 ≤ h → h < 16 → 0 ≤ r (160 + 16 * p + h).toNat ∧ r (160 + 16 * p + h).toNat ≤ 8) : ∀ (d v F : Nat), v + d = 16 → d < F → f_X8_countIn_b4 k F p (trkIn r p v) v M = some ((trkIn r p 16), M) := by
  intro d
  induction d with
  | zero =>
    intro v F h1 h2
    obtain ⟨F, rfl⟩ : ∃ k, F = k + 1 := ⟨F - 1, by omega⟩
    obtain rfl : v = 16 := by omega
    unfold f_X8_countIn_b4
    rw [if_pos (by omega), if_pos (by omega)]
  | succ d ih =>
    intro v F h1 h2
    obtain ⟨F, rfl⟩ : ∃ k, F = k + 1 := ⟨F - 1, by omega⟩
    have h3 := ih (v + 1) F (by omega) (by omega)
    push_cast at h3
    unfold f_X8_countIn_b4
    have h9 := hr v (by omega) (by omega)
    rw [if_pos (by omega), if_neg (by omega), q_isAt hk hS hp (by omega) h9]
    simp only [zbnd, f_X8_countIn_b22, bitR, bit0]
    rw [trkIn_s] at h3
    split at h3
    · rw [if_pos (by assumption)]; exact h3
    · rw [if_neg (by assumption)]; simpa using h3
theorem q_countIn {k b : Nat} {p : Int} {M : Mem} {r : Row} (hk : k = b + 10) (hS : ST0 M b r) (hp : 0 ≤ p ∧ p < 8) (hr : ∀ h : Int, 0 ≤ h → h < 16 → 0 ≤ r (160 + 16 * p + h).toNat ∧ r (160 + 16 * p + h).toNat ≤ 8) : f_X8_countIn k p M = some (trkIn r p 16, M) := q_countIn_l hk hS hp hr 16 0 100000 rfl (by decide)

/-! PURE PART: a state of the class (29 cells from b on) and one row of 871 numbers, the model's -/
abbrev Row : Type := Nat → Int
def sumN (n : Nat) (g : Nat → Int) : Int := match n with
  | 0 => 0
  | k + 1 => sumN k g + g k
theorem sumN_succ (n : Nat) (g : Nat → Int) : sumN (n + 1) g = sumN n g + g n := rfl
theorem sumN_congr {n : Nat} {f g : Nat → Int} (h : ∀ k, k < n → f k = g k) : sumN n f = sumN n g := by
  induction n with
  | zero => rfl
  | succ n ih => rw [sumN_succ, sumN_succ, ih (fun k hk => h k (by omega)), h n (by omega)]
theorem up_eq (r : Row) (i : Nat) (v : Int) : up r i v i = v := by simp [up]
theorem up_ne {r : Row} {i j : Nat} {v : Int} (h : j ≠ i) : up r i v j = r j := by simp [up, h]
theorem wr_eq (M : Mem) (k i : Nat) (v : Int) : wr M k i v k = up (M k) i v := by simp [wr]
theorem wr_ne {M : Mem} {k a i : Nat} {v : Int} (h : a ≠ k) : wr M k i v a = M a := by simp [wr, h]
theorem ml_eq (M : Mem) (k : Nat) (f : Row) : ml M k f k = f := by simp [ml]
theorem ml_ne {M : Mem} {k a : Nat} {f : Row} (h : a ≠ k) : ml M k f a = M a := by simp [ml, h]
theorem ml_ml (M : Mem) (k : Nat) (f g : Row) : ml (ml M k f) k g = ml M k g := by
  funext a
  by_cases h : a = k <;> simp [ml, h]
theorem wr_ml (M : Mem) (k i : Nat) (f : Row) (v : Int) : wr (ml M k f) k i v = ml M k (up f i v) := by
  funext a
  by_cases h : a = k <;> simp [ml, wr, h]
theorem wr_as (M : Mem) (k i : Nat) (v : Int) : wr M k i v = ml M k (up (M k) i v) := rfl
theorem ml_id (M : Mem) (k : Nat) : ml M k (M k) = M := by
  funext a
  by_cases h : a = k
  · subst h; simp [ml]
  · simp [ml, h]
def enc (d : Bool) (x : Int) : Int := if d then (if x = 0 then -5 else x - 1) else x
/-- where the class holds the place j of a row: cell behind b, place there, whether 0 stands for NONE -/
def kap (j : Nat) : Option (Nat × Nat × Bool) :=
  if j < 32 then (if j % 4 = 0 then some (4, j / 4, false) else if j % 4 = 1 then some (5, j / 4, false) else if j % 4 = 2 then some (8, j / 4, false) else some (7, j / 4, false))
  else if j < 160 then some (9, j - 32, true)
  else if j < 288 then some (11, j - 160, true)
  else if j < 416 then some (12, j - 288, false)
  else if j < 432 then some (14, j - 416, false)
  else if j < 448 then some (15, j - 432, false)
  else if j < 464 then some (16, j - 448, false)
  else if j < 720 then some (17, j - 464, false)
  else if j < 726 then (if j % 2 = 0 then some (19, (j - 720) / 2, false) else some (20, (j - 720) / 2, false))
  else if j < 756 then some (22 + (j - 726) % 5, (j - 726) / 5, false)
  else if j < 852 then some (27, j - 756, false)
  else if j < 856 then some (2, j - 852, false)
  else if j < 862 then some (1, j - 856, false)
  else if j = 862 then some (0, 0, false)
  else if j = 863 then some (3, 0, false)
  else if j = 864 then some (18, 0, false)
  else if j = 865 then some (21, 0, false)
  else if j = 867 then some (0, 1, false)
  else if j = 868 then some (0, 2, false)
  else none
def lam (o p : Nat) : Nat :=
  if o = 4 then 4 * p else if o = 5 then 4 * p + 1 else if o = 8 then 4 * p + 2 else if o = 7 then 4 * p + 3 else if o = 9 then 32 + p else if o = 11 then 160 + p else if o = 12 then 288 + p else if o = 14 then 416 + p else if o = 15 then 432 + p else if o = 16 then 448 + p else if o = 17 then 464 + p else if o = 19 then 720 + 2 * p else if o = 20 then 721 + 2 * p else if o = 27 then 756 + p else if o = 2 then 852 + p else if o = 1 then 856 + p else if o = 0 then (if p = 0 then 862 else 866 + p) else if o = 3 then 863 else if o = 18 then 864 else if o = 21 then 865 else 726 + 5 * p + (o - 22)
set_option maxRecDepth 100000 in
theorem kap_lam0 : ∀ j, j < 871 → (kap j).all (fun q => lam q.1 q.2.1 == j) = true := by decide +kernel
theorem kap_lam {j o p : Nat} {d : Bool} (hj : j < 871) (h : kap j = some (o, p, d)) : lam o p = j := by
  have h1 := kap_lam0 j hj
  rw [h] at h1
  simpa using h1
theorem kap_d {i j o p : Nat} {d e : Bool} (hi : i < 871) (hj : j < 871) (h1 : kap i = some (o, p, d)) (h2 : kap j = some (o, p, e)) : i = j := by
  rw [← kap_lam hi h1, ← kap_lam hj h2]
def ST0 (M : Mem) (b : Nat) (r : Row) : Prop := ∀ j, j < 871 → ∀ o p d, kap j = some (o, p, d) → M (b + o) p = enc d (r j)
theorem ST0_wr {M : Mem} {b : Nat} {r : Row} (h : ST0 M b r) {j o p : Nat} {d : Bool} {v w : Int} (hj : j < 871) (hk : kap j = some (o, p, d)) (hw : w = enc d v) : ST0 (wr M (b + o) p w) b (up r j v) := by
  intro i hi o2 p2 d2 hk2
  by_cases e : i = j
  · subst e
    rw [hk] at hk2
    cases hk2
    rw [wr_eq, up_eq, up_eq, hw]
  · rw [up_ne e, ← h i hi o2 p2 d2 hk2]
    by_cases e2 : o2 = o
    · subst e2
      rw [wr_eq]
      refine up_ne (fun q => e ?_)
      subst q
      exact kap_d hi hj hk2 hk
    · rw [wr_ne (by omega)]
theorem ST0_up {M : Mem} {b : Nat} {r : Row} (h : ST0 M b r) {j : Nat} {v : Int} (hk : kap j = none) : ST0 M b (up r j v) := by
  intro i hi o p d hk2
  have e : i ≠ j := fun q => by subst q; rw [hk] at hk2; cases hk2
  rw [up_ne e]
  exact h i hi o p d hk2
theorem kap_o : ∀ j, j < 871 → (kap j).all (fun q => decide (q.1 < 28 ∧ q.1 ≠ 6)) = true := by decide +kernel
theorem ST0_to {M M' : Mem} {b : Nat} {r r' : Row} (h : ST0 M b r) (hM : ∀ o, o < 28 → o ≠ 6 → M' (b + o) = M (b + o)) (hr : ∀ j, j < 871 → r' j = r j) : ST0 M' b r' := by
  intro j hj o p d hk
  have h1 := kap_o j hj
  rw [hk] at h1
  simp at h1
  rw [hM o h1.1 h1.2, hr j hj]
  exact h j hj o p d hk
theorem kp_num : ∀ p, p < 6 → 856 + p < 871 ∧ kap (856 + p) = some (1, p, false) := by decide +kernel
theorem ST0.num {M : Mem} {b : Nat} {r : Row} (h : ST0 M b r) {p : Int} (h0 : 0 ≤ p) (h1 : p < 6) : M (b + 1) p.toNat = enc false (r (856 + p).toNat) := by
  have h2 := kp_num p.toNat (by omega)
  have h3 := h _ h2.1 _ _ _ h2.2
  rw [h3]
  congr 2
  omega
theorem ST0.num_w {M : Mem} {b : Nat} {r : Row} (h : ST0 M b r) {p v w : Int} (h0 : 0 ≤ p) (h1 : p < 6) (hw : w = enc false v) : ST0 (wr M (b + 1) p.toNat w) b (up r (856 + p).toNat v) := by
  have h2 := kp_num p.toNat (by omega)
  have h3 : (856 + p).toNat = 856 + p.toNat := by omega
  rw [h3]
  exact ST0_wr h h2.1 h2.2 hw
theorem kp_lati : ∀ p, p < 4 → 852 + p < 871 ∧ kap (852 + p) = some (2, p, false) := by decide +kernel
theorem ST0.lati {M : Mem} {b : Nat} {r : Row} (h : ST0 M b r) {p : Int} (h0 : 0 ≤ p) (h1 : p < 4) : M (b + 2) p.toNat = enc false (r (852 + p).toNat) := by
  have h2 := kp_lati p.toNat (by omega)
  have h3 := h _ h2.1 _ _ _ h2.2
  rw [h3]
  congr 2
  omega
theorem ST0.lati_w {M : Mem} {b : Nat} {r : Row} (h : ST0 M b r) {p v w : Int} (h0 : 0 ≤ p) (h1 : p < 4) (hw : w = enc false v) : ST0 (wr M (b + 2) p.toNat w) b (up r (852 + p).toNat v) := by
  have h2 := kp_lati p.toNat (by omega)
  have h3 : (852 + p).toNat = 852 + p.toNat := by omega
  rw [h3]
  exact ST0_wr h h2.1 h2.2 hw
theorem kp_lat : ∀ p, p < 8 → 4 * p < 871 ∧ kap (4 * p) = some (4, p, false) := by decide +kernel
theorem ST0.lat {M : Mem} {b : Nat} {r : Row} (h : ST0 M b r) {p : Int} (h0 : 0 ≤ p) (h1 : p < 8) : M (b + 4) p.toNat = enc false (r (0 + 4 * p).toNat) := by
  have h2 := kp_lat p.toNat (by omega)
  have h3 := h _ h2.1 _ _ _ h2.2
  rw [h3]
  congr 2
  omega
theorem ST0.lat_w {M : Mem} {b : Nat} {r : Row} (h : ST0 M b r) {p v w : Int} (h0 : 0 ≤ p) (h1 : p < 8) (hw : w = enc false v) : ST0 (wr M (b + 4) p.toNat w) b (up r (0 + 4 * p).toNat v) := by
  have h2 := kp_lat p.toNat (by omega)
  have h3 : (0 + 4 * p).toNat = 4 * p.toNat := by omega
  rw [h3]
  exact ST0_wr h h2.1 h2.2 hw
theorem kp_room : ∀ p, p < 8 → 4 * p + 1 < 871 ∧ kap (4 * p + 1) = some (5, p, false) := by decide +kernel
theorem ST0.room {M : Mem} {b : Nat} {r : Row} (h : ST0 M b r) {p : Int} (h0 : 0 ≤ p) (h1 : p < 8) : M (b + 5) p.toNat = enc false (r ((0 + 4 * p) + 1).toNat) := by
  have h2 := kp_room p.toNat (by omega)
  have h3 := h _ h2.1 _ _ _ h2.2
  rw [h3]
  congr 2
  omega
theorem ST0.room_w {M : Mem} {b : Nat} {r : Row} (h : ST0 M b r) {p v w : Int} (h0 : 0 ≤ p) (h1 : p < 8) (hw : w = enc false v) : ST0 (wr M (b + 5) p.toNat w) b (up r ((0 + 4 * p) + 1).toNat v) := by
  have h2 := kp_room p.toNat (by omega)
  have h3 : ((0 + 4 * p) + 1).toNat = 4 * p.toNat + 1 := by omega
  rw [h3]
  exact ST0_wr h h2.1 h2.2 hw
theorem kp_sent : ∀ p, p < 8 → 4 * p + 3 < 871 ∧ kap (4 * p + 3) = some (7, p, false) := by decide +kernel
theorem ST0.sent {M : Mem} {b : Nat} {r : Row} (h : ST0 M b r) {p : Int} (h0 : 0 ≤ p) (h1 : p < 8) : M (b + 7) p.toNat = enc false (r ((0 + 4 * p) + 3).toNat) := by
  have h2 := kp_sent p.toNat (by omega)
  have h3 := h _ h2.1 _ _ _ h2.2
  rw [h3]
  congr 2
  omega
theorem ST0.sent_w {M : Mem} {b : Nat} {r : Row} (h : ST0 M b r) {p v w : Int} (h0 : 0 ≤ p) (h1 : p < 8) (hw : w = enc false v) : ST0 (wr M (b + 7) p.toNat w) b (up r ((0 + 4 * p) + 3).toNat v) := by
  have h2 := kp_sent p.toNat (by omega)
  have h3 : ((0 + 4 * p) + 3).toNat = 4 * p.toNat + 3 := by omega
  rw [h3]
  exact ST0_wr h h2.1 h2.2 hw
theorem kp_inn : ∀ p, p < 8 → 4 * p + 2 < 871 ∧ kap (4 * p + 2) = some (8, p, false) := by decide +kernel
theorem ST0.inn {M : Mem} {b : Nat} {r : Row} (h : ST0 M b r) {p : Int} (h0 : 0 ≤ p) (h1 : p < 8) : M (b + 8) p.toNat = enc false (r ((0 + 4 * p) + 2).toNat) := by
  have h2 := kp_inn p.toNat (by omega)
  have h3 := h _ h2.1 _ _ _ h2.2
  rw [h3]
  congr 2
  omega
theorem ST0.inn_w {M : Mem} {b : Nat} {r : Row} (h : ST0 M b r) {p v w : Int} (h0 : 0 ≤ p) (h1 : p < 8) (hw : w = enc false v) : ST0 (wr M (b + 8) p.toNat w) b (up r ((0 + 4 * p) + 2).toNat v) := by
  have h2 := kp_inn p.toNat (by omega)
  have h3 : ((0 + 4 * p) + 2).toNat = 4 * p.toNat + 2 := by omega
  rw [h3]
  exact ST0_wr h h2.1 h2.2 hw
theorem kp_post : ∀ p, p < 128 → 32 + p < 871 ∧ kap (32 + p) = some (9, p, true) := by decide +kernel
theorem ST0.post {M : Mem} {b : Nat} {r : Row} (h : ST0 M b r) {p : Int} (h0 : 0 ≤ p) (h1 : p < 128) : M (b + 9) p.toNat = enc true (r (32 + p).toNat) := by
  have h2 := kp_post p.toNat (by omega)
  have h3 := h _ h2.1 _ _ _ h2.2
  rw [h3]
  congr 2
  omega
theorem ST0.post_w {M : Mem} {b : Nat} {r : Row} (h : ST0 M b r) {p v w : Int} (h0 : 0 ≤ p) (h1 : p < 128) (hw : w = enc true v) : ST0 (wr M (b + 9) p.toNat w) b (up r (32 + p).toNat v) := by
  have h2 := kp_post p.toNat (by omega)
  have h3 : (32 + p).toNat = 32 + p.toNat := by omega
  rw [h3]
  exact ST0_wr h h2.1 h2.2 hw
theorem kp_lead : ∀ p, p < 128 → 160 + p < 871 ∧ kap (160 + p) = some (11, p, true) := by decide +kernel
theorem ST0.lead {M : Mem} {b : Nat} {r : Row} (h : ST0 M b r) {p : Int} (h0 : 0 ≤ p) (h1 : p < 128) : M (b + 11) p.toNat = enc true (r (160 + p).toNat) := by
  have h2 := kp_lead p.toNat (by omega)
  have h3 := h _ h2.1 _ _ _ h2.2
  rw [h3]
  congr 2
  omega
theorem ST0.lead_w {M : Mem} {b : Nat} {r : Row} (h : ST0 M b r) {p v w : Int} (h0 : 0 ≤ p) (h1 : p < 128) (hw : w = enc true v) : ST0 (wr M (b + 11) p.toNat w) b (up r (160 + p).toNat v) := by
  have h2 := kp_lead p.toNat (by omega)
  have h3 : (160 + p).toNat = 160 + p.toNat := by omega
  rw [h3]
  exact ST0_wr h h2.1 h2.2 hw
theorem kp_left : ∀ p, p < 128 → 288 + p < 871 ∧ kap (288 + p) = some (12, p, false) := by decide +kernel
theorem ST0.left {M : Mem} {b : Nat} {r : Row} (h : ST0 M b r) {p : Int} (h0 : 0 ≤ p) (h1 : p < 128) : M (b + 12) p.toNat = enc false (r (288 + p).toNat) := by
  have h2 := kp_left p.toNat (by omega)
  have h3 := h _ h2.1 _ _ _ h2.2
  rw [h3]
  congr 2
  omega
theorem ST0.left_w {M : Mem} {b : Nat} {r : Row} (h : ST0 M b r) {p v w : Int} (h0 : 0 ≤ p) (h1 : p < 128) (hw : w = enc false v) : ST0 (wr M (b + 12) p.toNat w) b (up r (288 + p).toNat v) := by
  have h2 := kp_left p.toNat (by omega)
  have h3 : (288 + p).toNat = 288 + p.toNat := by omega
  rw [h3]
  exact ST0_wr h h2.1 h2.2 hw
theorem kp_at : ∀ p, p < 16 → 416 + p < 871 ∧ kap (416 + p) = some (14, p, false) := by decide +kernel
theorem ST0.at {M : Mem} {b : Nat} {r : Row} (h : ST0 M b r) {p : Int} (h0 : 0 ≤ p) (h1 : p < 16) : M (b + 14) p.toNat = enc false (r (416 + p).toNat) := by
  have h2 := kp_at p.toNat (by omega)
  have h3 := h _ h2.1 _ _ _ h2.2
  rw [h3]
  congr 2
  omega
theorem ST0.at_w {M : Mem} {b : Nat} {r : Row} (h : ST0 M b r) {p v w : Int} (h0 : 0 ≤ p) (h1 : p < 16) (hw : w = enc false v) : ST0 (wr M (b + 14) p.toNat w) b (up r (416 + p).toNat v) := by
  have h2 := kp_at p.toNat (by omega)
  have h3 : (416 + p).toNat = 416 + p.toNat := by omega
  rw [h3]
  exact ST0_wr h h2.1 h2.2 hw
theorem kp_heat : ∀ p, p < 16 → 432 + p < 871 ∧ kap (432 + p) = some (15, p, false) := by decide +kernel
theorem ST0.heat {M : Mem} {b : Nat} {r : Row} (h : ST0 M b r) {p : Int} (h0 : 0 ≤ p) (h1 : p < 16) : M (b + 15) p.toNat = enc false (r (432 + p).toNat) := by
  have h2 := kp_heat p.toNat (by omega)
  have h3 := h _ h2.1 _ _ _ h2.2
  rw [h3]
  congr 2
  omega
theorem ST0.heat_w {M : Mem} {b : Nat} {r : Row} (h : ST0 M b r) {p v w : Int} (h0 : 0 ≤ p) (h1 : p < 16) (hw : w = enc false v) : ST0 (wr M (b + 15) p.toNat w) b (up r (432 + p).toNat v) := by
  have h2 := kp_heat p.toNat (by omega)
  have h3 : (432 + p).toNat = 432 + p.toNat := by omega
  rw [h3]
  exact ST0_wr h h2.1 h2.2 hw
theorem kp_moves : ∀ p, p < 16 → 448 + p < 871 ∧ kap (448 + p) = some (16, p, false) := by decide +kernel
theorem ST0.moves {M : Mem} {b : Nat} {r : Row} (h : ST0 M b r) {p : Int} (h0 : 0 ≤ p) (h1 : p < 16) : M (b + 16) p.toNat = enc false (r (448 + p).toNat) := by
  have h2 := kp_moves p.toNat (by omega)
  have h3 := h _ h2.1 _ _ _ h2.2
  rw [h3]
  congr 2
  omega
theorem ST0.moves_w {M : Mem} {b : Nat} {r : Row} (h : ST0 M b r) {p v w : Int} (h0 : 0 ≤ p) (h1 : p < 16) (hw : w = enc false v) : ST0 (wr M (b + 16) p.toNat w) b (up r (448 + p).toNat v) := by
  have h2 := kp_moves p.toNat (by omega)
  have h3 : (448 + p).toNat = 448 + p.toNat := by omega
  rw [h3]
  exact ST0_wr h h2.1 h2.2 hw
theorem kp_vals : ∀ p, p < 256 → 464 + p < 871 ∧ kap (464 + p) = some (17, p, false) := by decide +kernel
theorem ST0.vals {M : Mem} {b : Nat} {r : Row} (h : ST0 M b r) {p : Int} (h0 : 0 ≤ p) (h1 : p < 256) : M (b + 17) p.toNat = enc false (r (464 + p).toNat) := by
  have h2 := kp_vals p.toNat (by omega)
  have h3 := h _ h2.1 _ _ _ h2.2
  rw [h3]
  congr 2
  omega
theorem ST0.vals_w {M : Mem} {b : Nat} {r : Row} (h : ST0 M b r) {p v w : Int} (h0 : 0 ≤ p) (h1 : p < 256) (hw : w = enc false v) : ST0 (wr M (b + 17) p.toNat w) b (up r (464 + p).toNat v) := by
  have h2 := kp_vals p.toNat (by omega)
  have h3 : (464 + p).toNat = 464 + p.toNat := by omega
  rw [h3]
  exact ST0_wr h h2.1 h2.2 hw
theorem kp_wat : ∀ p, p < 3 → 720 + 2 * p < 871 ∧ kap (720 + 2 * p) = some (19, p, false) := by decide +kernel
theorem ST0.wat {M : Mem} {b : Nat} {r : Row} (h : ST0 M b r) {p : Int} (h0 : 0 ≤ p) (h1 : p < 3) : M (b + 19) p.toNat = enc false (r (720 + 2 * p).toNat) := by
  have h2 := kp_wat p.toNat (by omega)
  have h3 := h _ h2.1 _ _ _ h2.2
  rw [h3]
  congr 2
  omega
theorem ST0.wat_w {M : Mem} {b : Nat} {r : Row} (h : ST0 M b r) {p v w : Int} (h0 : 0 ≤ p) (h1 : p < 3) (hw : w = enc false v) : ST0 (wr M (b + 19) p.toNat w) b (up r (720 + 2 * p).toNat v) := by
  have h2 := kp_wat p.toNat (by omega)
  have h3 : (720 + 2 * p).toNat = 720 + 2 * p.toNat := by omega
  rw [h3]
  exact ST0_wr h h2.1 h2.2 hw
theorem kp_wstr : ∀ p, p < 3 → 721 + 2 * p < 871 ∧ kap (721 + 2 * p) = some (20, p, false) := by decide +kernel
theorem ST0.wstr {M : Mem} {b : Nat} {r : Row} (h : ST0 M b r) {p : Int} (h0 : 0 ≤ p) (h1 : p < 3) : M (b + 20) p.toNat = enc false (r ((720 + 2 * p) + 1).toNat) := by
  have h2 := kp_wstr p.toNat (by omega)
  have h3 := h _ h2.1 _ _ _ h2.2
  rw [h3]
  congr 2
  omega
theorem ST0.wstr_w {M : Mem} {b : Nat} {r : Row} (h : ST0 M b r) {p v w : Int} (h0 : 0 ≤ p) (h1 : p < 3) (hw : w = enc false v) : ST0 (wr M (b + 20) p.toNat w) b (up r ((720 + 2 * p) + 1).toNat v) := by
  have h2 := kp_wstr p.toNat (by omega)
  have h3 : ((720 + 2 * p) + 1).toNat = 721 + 2 * p.toNat := by omega
  rw [h3]
  exact ST0_wr h h2.1 h2.2 hw
theorem kp_home : ∀ p, p < 6 → 726 + 5 * p < 871 ∧ kap (726 + 5 * p) = some (22, p, false) := by decide +kernel
theorem ST0.home {M : Mem} {b : Nat} {r : Row} (h : ST0 M b r) {p : Int} (h0 : 0 ≤ p) (h1 : p < 6) : M (b + 22) p.toNat = enc false (r (726 + 5 * p).toNat) := by
  have h2 := kp_home p.toNat (by omega)
  have h3 := h _ h2.1 _ _ _ h2.2
  rw [h3]
  congr 2
  omega
theorem ST0.home_w {M : Mem} {b : Nat} {r : Row} (h : ST0 M b r) {p v w : Int} (h0 : 0 ≤ p) (h1 : p < 6) (hw : w = enc false v) : ST0 (wr M (b + 22) p.toNat w) b (up r (726 + 5 * p).toNat v) := by
  have h2 := kp_home p.toNat (by omega)
  have h3 : (726 + 5 * p).toNat = 726 + 5 * p.toNat := by omega
  rw [h3]
  exact ST0_wr h h2.1 h2.2 hw
theorem kp_reqs : ∀ p, p < 6 → 727 + 5 * p < 871 ∧ kap (727 + 5 * p) = some (23, p, false) := by decide +kernel
theorem ST0.reqs {M : Mem} {b : Nat} {r : Row} (h : ST0 M b r) {p : Int} (h0 : 0 ≤ p) (h1 : p < 6) : M (b + 23) p.toNat = enc false (r ((726 + 5 * p) + 1).toNat) := by
  have h2 := kp_reqs p.toNat (by omega)
  have h3 := h _ h2.1 _ _ _ h2.2
  rw [h3]
  congr 2
  omega
theorem ST0.reqs_w {M : Mem} {b : Nat} {r : Row} (h : ST0 M b r) {p v w : Int} (h0 : 0 ≤ p) (h1 : p < 6) (hw : w = enc false v) : ST0 (wr M (b + 23) p.toNat w) b (up r ((726 + 5 * p) + 1).toNat v) := by
  have h2 := kp_reqs p.toNat (by omega)
  have h3 : ((726 + 5 * p) + 1).toNat = 727 + 5 * p.toNat := by omega
  rw [h3]
  exact ST0_wr h h2.1 h2.2 hw
theorem kp_hops : ∀ p, p < 6 → 728 + 5 * p < 871 ∧ kap (728 + 5 * p) = some (24, p, false) := by decide +kernel
theorem ST0.hops {M : Mem} {b : Nat} {r : Row} (h : ST0 M b r) {p : Int} (h0 : 0 ≤ p) (h1 : p < 6) : M (b + 24) p.toNat = enc false (r ((726 + 5 * p) + 2).toNat) := by
  have h2 := kp_hops p.toNat (by omega)
  have h3 := h _ h2.1 _ _ _ h2.2
  rw [h3]
  congr 2
  omega
theorem ST0.hops_w {M : Mem} {b : Nat} {r : Row} (h : ST0 M b r) {p v w : Int} (h0 : 0 ≤ p) (h1 : p < 6) (hw : w = enc false v) : ST0 (wr M (b + 24) p.toNat w) b (up r ((726 + 5 * p) + 2).toNat v) := by
  have h2 := kp_hops p.toNat (by omega)
  have h3 : ((726 + 5 * p) + 2).toNat = 728 + 5 * p.toNat := by omega
  rw [h3]
  exact ST0_wr h h2.1 h2.2 hw
theorem kp_cries : ∀ p, p < 6 → 729 + 5 * p < 871 ∧ kap (729 + 5 * p) = some (25, p, false) := by decide +kernel
theorem ST0.cries {M : Mem} {b : Nat} {r : Row} (h : ST0 M b r) {p : Int} (h0 : 0 ≤ p) (h1 : p < 6) : M (b + 25) p.toNat = enc false (r ((726 + 5 * p) + 3).toNat) := by
  have h2 := kp_cries p.toNat (by omega)
  have h3 := h _ h2.1 _ _ _ h2.2
  rw [h3]
  congr 2
  omega
theorem ST0.cries_w {M : Mem} {b : Nat} {r : Row} (h : ST0 M b r) {p v w : Int} (h0 : 0 ≤ p) (h1 : p < 6) (hw : w = enc false v) : ST0 (wr M (b + 25) p.toNat w) b (up r ((726 + 5 * p) + 3).toNat v) := by
  have h2 := kp_cries p.toNat (by omega)
  have h3 : ((726 + 5 * p) + 3).toNat = 729 + 5 * p.toNat := by omega
  rw [h3]
  exact ST0_wr h h2.1 h2.2 hw
theorem kp_most : ∀ p, p < 6 → 730 + 5 * p < 871 ∧ kap (730 + 5 * p) = some (26, p, false) := by decide +kernel
theorem ST0.most {M : Mem} {b : Nat} {r : Row} (h : ST0 M b r) {p : Int} (h0 : 0 ≤ p) (h1 : p < 6) : M (b + 26) p.toNat = enc false (r ((726 + 5 * p) + 4).toNat) := by
  have h2 := kp_most p.toNat (by omega)
  have h3 := h _ h2.1 _ _ _ h2.2
  rw [h3]
  congr 2
  omega
theorem ST0.most_w {M : Mem} {b : Nat} {r : Row} (h : ST0 M b r) {p v w : Int} (h0 : 0 ≤ p) (h1 : p < 6) (hw : w = enc false v) : ST0 (wr M (b + 26) p.toNat w) b (up r ((726 + 5 * p) + 4).toNat v) := by
  have h2 := kp_most p.toNat (by omega)
  have h3 : ((726 + 5 * p) + 4).toNat = 730 + 5 * p.toNat := by omega
  rw [h3]
  exact ST0_wr h h2.1 h2.2 hw
theorem kp_mem : ∀ p, p < 96 → 756 + p < 871 ∧ kap (756 + p) = some (27, p, false) := by decide +kernel
theorem ST0.mem {M : Mem} {b : Nat} {r : Row} (h : ST0 M b r) {p : Int} (h0 : 0 ≤ p) (h1 : p < 96) : M (b + 27) p.toNat = enc false (r (756 + p).toNat) := by
  have h2 := kp_mem p.toNat (by omega)
  have h3 := h _ h2.1 _ _ _ h2.2
  rw [h3]
  congr 2
  omega
theorem ST0.mem_w {M : Mem} {b : Nat} {r : Row} (h : ST0 M b r) {p v w : Int} (h0 : 0 ≤ p) (h1 : p < 96) (hw : w = enc false v) : ST0 (wr M (b + 27) p.toNat w) b (up r (756 + p).toNat v) := by
  have h2 := kp_mem p.toNat (by omega)
  have h3 : (756 + p).toNat = 756 + p.toNat := by omega
  rw [h3]
  exact ST0_wr h h2.1 h2.2 hw
theorem ST0.day {M : Mem} {b : Nat} {r : Row} (h : ST0 M b r) : M (b + 0) 0 = r 862 := h 862 (by decide) 0 0 false (by decide +kernel)
theorem ST0.day_w {M : Mem} {b : Nat} {r : Row} (h : ST0 M b r) (v : Int) : ST0 (wr M (b + 0) 0 v) b (up r 862 v) := ST0_wr h (by decide) (show kap 862 = some (0, 0, false) by decide +kernel) rfl
theorem ST0.cut {M : Mem} {b : Nat} {r : Row} (h : ST0 M b r) : M (b + 0) 1 = r 867 := h 867 (by decide) 0 1 false (by decide +kernel)
theorem ST0.cut_w {M : Mem} {b : Nat} {r : Row} (h : ST0 M b r) (v : Int) : ST0 (wr M (b + 0) 1 v) b (up r 867 v) := ST0_wr h (by decide) (show kap 867 = some (0, 1, false) by decide +kernel) rfl
theorem ST0.grown {M : Mem} {b : Nat} {r : Row} (h : ST0 M b r) : M (b + 0) 2 = r 868 := h 868 (by decide) 0 2 false (by decide +kernel)
theorem ST0.grown_w {M : Mem} {b : Nat} {r : Row} (h : ST0 M b r) (v : Int) : ST0 (wr M (b + 0) 2 v) b (up r 868 v) := ST0_wr h (by decide) (show kap 868 = some (0, 2, false) by decide +kernel) rfl
theorem ST0.np {M : Mem} {b : Nat} {r : Row} (h : ST0 M b r) : M (b + 3) 0 = r 863 := h 863 (by decide) 3 0 false (by decide +kernel)
theorem ST0.np_w {M : Mem} {b : Nat} {r : Row} (h : ST0 M b r) (v : Int) : ST0 (wr M (b + 3) 0 v) b (up r 863 v) := ST0_wr h (by decide) (show kap 863 = some (3, 0, false) by decide +kernel) rfl
theorem ST0.nw {M : Mem} {b : Nat} {r : Row} (h : ST0 M b r) : M (b + 18) 0 = r 864 := h 864 (by decide) 18 0 false (by decide +kernel)
theorem ST0.nw_w {M : Mem} {b : Nat} {r : Row} (h : ST0 M b r) (v : Int) : ST0 (wr M (b + 18) 0 v) b (up r 864 v) := ST0_wr h (by decide) (show kap 864 = some (18, 0, false) by decide +kernel) rfl
theorem ST0.nr {M : Mem} {b : Nat} {r : Row} (h : ST0 M b r) : M (b + 21) 0 = r 865 := h 865 (by decide) 21 0 false (by decide +kernel)
theorem ST0.nr_w {M : Mem} {b : Nat} {r : Row} (h : ST0 M b r) (v : Int) : ST0 (wr M (b + 21) 0 v) b (up r 865 v) := ST0_wr h (by decide) (show kap 865 = some (21, 0, false) by decide +kernel) rfl

def innF (r : Row)  (n : Nat) : Int := sumN n fun p => if r ((0 + 4 * (p : Int)) + 2).toNat = 1 then 1 else 0
theorem innF_s (r : Row)  (n : Nat) : innF r  (n + 1) = innF r  n + (if r ((0 + 4 * (n : Int)) + 2).toNat = 1 then 1 else 0) := rfl
set_option maxRecDepth 20000 in
theorem q_inns_l {B : Int} {k b : Nat} {M : Mem} {r : Row} (hk : k = b + 3) (hS : ST0 M b r) (W : WF1 B r) {N : Nat} (hN : r 863 = N) (h8 : N ≤ 8) : ∀ (d v F : Nat), v + d = N → d < F → f_X2_inns_b4 k F (innF r v)  v M = some ((innF r N), M) := by
  intro d
  induction d with
  | zero =>
    intro v F h1 h2
    obtain ⟨F, rfl⟩ : ∃ k, F = k + 1 := ⟨F - 1, by omega⟩
    obtain rfl : v = N := by omega
    unfold f_X2_inns_b4
    have h6 := hS.np
    subst hk
    rw [if_pos (by omega), if_pos (by omega), if_pos (by omega)]
  | succ d ih =>
    intro v F h1 h2
    obtain ⟨F, rfl⟩ : ∃ k, F = k + 1 := ⟨F - 1, by omega⟩
    have h3 := ih (v + 1) F (by omega) (by omega)
    push_cast at h3
    unfold f_X2_inns_b4
    have h4 := WF1_inn W (p := (v : Int)) (by omega) (by omega)
    have h5 := hS.inn (p := (v : Int)) (by omega) (by omega)
    have h6 := hS.np
    subst hk
    rw [show b + 3 + 5 = b + 8 from rfl, h5, h6]
    simp only [enc, Bool.false_eq_true, if_false]
    rw [if_pos (by omega), if_pos (by omega), if_neg (by omega), if_pos (by omega), if_pos (by omega)]
    simp only [f_X2_inns_b24]
    rw [innF_s] at h3
    split at h3
    · rw [if_neg (by omega)]; exact h3
    · rw [if_pos (by omega)]; simpa using h3
theorem q_inns {B : Int} {k b : Nat} {M : Mem} {r : Row} (hk : k = b + 3) (hS : ST0 M b r) (W : WF1 B r) {N : Nat} (hN : r 863 = N) (h8 : N ≤ 8) : f_X2_inns k M = some (innF r N, M) := q_inns_l hk hS W hN h8 N 0 100000 (by omega) (by omega)
theorem tdiv_b {a b : Int} (ha : 0 ≤ a) (hb : 1 ≤ b) : 0 ≤ a.tdiv b ∧ a.tdiv b ≤ a := by
  rw [Int.tdiv_eq_ediv_of_nonneg ha]
  exact ⟨Int.ediv_nonneg ha (by omega), Int.ediv_le_self b ha⟩
def seaF (r : Row) : Int := ((r 862).tdiv (r 856)).tmod 4
theorem seaF_b {B : Int} {r : Row} (W : WF1 B r) : 0 ≤ seaF r ∧ seaF r < 4 := by
  have h1 := tdiv_b (WF1_day W).1 (WF1_len W).1
  unfold seaF
  rw [Int.tmod_eq_emod_of_nonneg h1.1]
  omega
theorem q_season {B : Int} {b : Nat} {M : Mem} {r : Row} (hS : ST0 M b r) (W : WF1 B r) : f_X7_season b M = some (seaF r, M) := by
  have h1 := WF1_day W
  have h2 := WF1_len W
  have h3 := tdiv_b h1.1 h2.1
  have h4' : M (b + 1) 0 = enc false (r 856) := hS.num (p := 0) (by omega) (by omega)
  have h5 : M b 0 = r 862 := hS.day
  unfold f_X7_season f_X7_season_b23
  simp only [zlt]
  rw [h4', h5]
  simp only [enc, Bool.false_eq_true, if_false]
  rw [if_pos (by omega), if_neg (by omega), if_pos (by omega), if_pos (by omega), if_pos (by omega)]
  rfl
def slatF (r : Row) : Int := r (852 + seaF r).toNat
def disF (r : Row) (p : Int) : Int := iabs (r (0 + 4 * p).toNat - slatF r)
theorem slatF_b {B : Int} {r : Row} (W : WF1 B r) : 0 ≤ slatF r ∧ slatF r ≤ 90 := WF1_sea W (seaF_b W).1 (seaF_b W).2
theorem disF_b {B : Int} {r : Row} (W : WF1 B r) {p : Int} (p0 : 0 ≤ p) (p1 : p < 8) : 0 ≤ disF r p ∧ disF r p ≤ 90 := by
  have h1 := slatF_b W
  have h2 := WF1_lat W p0 p1
  unfold disF iabs
  split <;> omega
theorem q_seasonLat {B : Int} {b : Nat} {M : Mem} {r : Row} (hS : ST0 M b r) (W : WF1 B r) : f_X7_seasonLatitude b M = some (slatF r, M) := by
  have h1 := seaF_b W
  unfold f_X7_seasonLatitude
  rw [q_season hS W]
  simp only [zbnd]
  rw [if_pos h1]
  have h4 := hS.lati h1.1 h1.2
  rw [h4]
  rfl
theorem q_distance {B : Int} {k b : Nat} {M : Mem} {r : Row} (hk : k = b + 3) (hS : ST0 M b r) (W : WF1 B r) {p z : Int} (p0 : 0 ≤ p) (p1 : p < 8) (hz : 0 ≤ z ∧ z ≤ 90) : f_X2_distance k p z M = some (iabs (r (0 + 4 * p).toNat - z), M) := by
  have h2 := WF1_lat W p0 p1
  have h4 := hS.lat p0 p1
  subst hk
  unfold f_X2_distance
  rw [show b + 3 + 1 = b + 4 from rfl, h4]
  simp only [enc, Bool.false_eq_true, if_false]
  rw [if_pos (by omega), if_pos (by omega)]
def heatF (r : Row) (p : Int) (n : Nat) : Int := sumN n fun h => if r (416 + (h : Int)).toNat = p then r (432 + (h : Int)).toNat else 0
theorem heatF_s (r : Row) (p : Int) (n : Nat) : heatF r p (n + 1) = heatF r p n + (if r (416 + (n : Int)).toNat = p then r (432 + (n : Int)).toNat else 0) := rfl
set_option maxRecDepth 20000 in
theorem q_heatIn_l {B : Int} {k b : Nat} {M : Mem} {r : Row} (hk : k = b + 13) (hS : ST0 M b r) (W : WF1 B r) {p : Int} (hp : inR p) : ∀ (d v F : Nat), v + d = 16 → d < F → f_X0_heatIn_b4 k F p (heatF r p v)  v M = some ((heatF r p 16), M) := by
  intro d
  induction d with
  | zero =>
    intro v F h1 h2
    obtain ⟨F, rfl⟩ : ∃ k, F = k + 1 := ⟨F - 1, by omega⟩
    obtain rfl : v = 16 := by omega
    unfold f_X0_heatIn_b4
    rw [if_pos (by omega), if_pos (by omega)]
  | succ d ih =>
    intro v F h1 h2
    obtain ⟨F, rfl⟩ : ∃ k, F = k + 1 := ⟨F - 1, by omega⟩
    have h3 := ih (v + 1) F (by omega) (by omega)
    push_cast at h3
    unfold f_X0_heatIn_b4
    have h9 := WF1_at W (h := (v : Int)) (by omega) (by omega)
    have h8 := WF1_n W
    have h5 := hS.at (p := (v : Int)) (by omega) (by omega)
    have h6 := hS.heat (p := (v : Int)) (by omega) (by omega)
    subst hk
    rw [show b + 13 + 1 = b + 14 from rfl, show b + 13 + 2 = b + 15 from rfl, h5, h6]
    simp only [enc, Bool.false_eq_true, if_false]
    rw [if_pos (by omega), if_neg (by omega), if_pos (by omega), if_pos (by omega), if_pos hp]
    simp only [f_X0_heatIn_b29, zlt]
    rw [heatF_s] at h3
    split at h3
    · rw [if_pos (by assumption)]; exact h3
    · rw [if_neg (by assumption)]; simpa using h3
theorem q_heatIn {B : Int} {k b : Nat} {M : Mem} {r : Row} (hk : k = b + 13) (hS : ST0 M b r) (W : WF1 B r) {p : Int} (hp : inR p) : f_X0_heatIn k p M = some (heatF r p 16, M) := q_heatIn_l hk hS W hp 16 0 100000 rfl (by decide)
def wolF (r : Row) (p : Int) (n : Nat) : Int := sumN n fun w => if r (720 + 2 * (w : Int)).toNat = p then 1 else 0
theorem wolF_s (r : Row) (p : Int) (n : Nat) : wolF r p (n + 1) = wolF r p n + (if r (720 + 2 * (n : Int)).toNat = p then 1 else 0) := rfl
set_option maxRecDepth 20000 in
theorem q_wolvesIn_l {B : Int} {k b : Nat} {M : Mem} {r : Row} (hk : k = b + 18) (hS : ST0 M b r) (W : WF1 B r) {p : Int} (hp : inR p) {N : Nat} (hN : r 864 = N) (h8 : N ≤ 3) : ∀ (d v F : Nat), v + d = N → d < F → f_X3_countIn_b4 k F p (wolF r p v)  v M = some ((wolF r p N), M) := by
  intro d
  induction d with
  | zero =>
    intro v F h1 h2
    obtain ⟨F, rfl⟩ : ∃ k, F = k + 1 := ⟨F - 1, by omega⟩
    obtain rfl : v = N := by omega
    unfold f_X3_countIn_b4
    have h6 := hS.nw
    subst hk
    rw [if_pos (by omega), if_pos (by omega), if_pos (by omega)]
  | succ d ih =>
    intro v F h1 h2
    obtain ⟨F, rfl⟩ : ∃ k, F = k + 1 := ⟨F - 1, by omega⟩
    have h3 := ih (v + 1) F (by omega) (by omega)
    push_cast at h3
    unfold f_X3_countIn_b4
    have h9 := WF1_wat W (w := (v : Int)) (by omega) (by omega)
    have h7 := WF1_n W
    have h5 := hS.wat (p := (v : Int)) (by omega) (by omega)
    have h6 := hS.nw
    subst hk
    rw [show b + 18 + 1 = b + 19 from rfl, h5, h6]
    simp only [enc, Bool.false_eq_true, if_false]
    rw [if_pos (by omega), if_pos (by omega), if_neg (by omega), if_pos (by omega), if_pos (by omega), if_pos hp]
    simp only [f_X3_countIn_b25]
    rw [wolF_s] at h3
    split at h3
    · rw [if_pos (by assumption)]; exact h3
    · rw [if_neg (by assumption)]; simpa using h3
theorem q_wolvesIn {B : Int} {k b : Nat} {M : Mem} {r : Row} (hk : k = b + 18) (hS : ST0 M b r) (W : WF1 B r) {p : Int} (hp : inR p) {N : Nat} (hN : r 864 = N) (h8 : N ≤ 3) : f_X3_countIn k p M = some (wolF r p N, M) := q_wolvesIn_l hk hS W hp hN h8 N 0 100000 (by omega) (by omega)
def valF (r : Row) (h : Int) (n : Nat) : Int := sumN n fun k => r ((464 + 16 * h) + (k : Int)).toNat
theorem valF_s (r : Row) (h : Int) (n : Nat) : valF r h (n + 1) = valF r h n + (r ((464 + 16 * h) + (n : Int)).toNat) := rfl
set_option maxRecDepth 20000 in
theorem q_sumOf_l {k b : Nat} {M : Mem} {r : Row} (hk : k = b + 13) (hS : ST0 M b r) {h : Int} (h0 : 0 ≤ h) (hh : h < 16) : ∀ (d v F : Nat), v + d = 16 → d < F → f_X0_sumOfValues_b4 k F h (valF r h v)  v M = some ((valF r h 16), M) := by
  intro d
  induction d with
  | zero =>
    intro v F h1 h2
    obtain ⟨F, rfl⟩ : ∃ k, F = k + 1 := ⟨F - 1, by omega⟩
    obtain rfl : v = 16 := by omega
    unfold f_X0_sumOfValues_b4
    rw [if_pos (by omega), if_pos (by omega)]
  | succ d ih =>
    intro v F h1 h2
    obtain ⟨F, rfl⟩ : ∃ k, F = k + 1 := ⟨F - 1, by omega⟩
    have h3 := ih (v + 1) F (by omega) (by omega)
    push_cast at h3
    unfold f_X0_sumOfValues_b4
    have h5 := hS.vals (p := h * 16 + v) (by omega) (by omega)
    subst hk
    rw [show b + 13 + 4 = b + 17 from rfl, h5, if_pos (by omega), if_neg (by omega), if_pos (by omega)]
    simp only [zlt, enc, Bool.false_eq_true, if_false]
    rw [valF_s] at h3
    rw [show (464 + (h * 16 + (v : Int))).toNat = (464 + 16 * h + (v : Int)).toNat by omega]
    exact h3
theorem q_sumOf {k b : Nat} {M : Mem} {r : Row} (hk : k = b + 13) (hS : ST0 M b r) {h : Int} (h0 : 0 ≤ h) (hh : h < 16) : f_X0_sumOfValues k h M = some (valF r h 16, M) := q_sumOf_l hk hS h0 hh 16 0 100000 rfl (by decide)

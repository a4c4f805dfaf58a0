/-! the law's sum of all numbers hangs on the row alone -/
def Tot (r : Row) (g : Mem → Option (Int × Mem)) : Prop := ∃ a, ∀ M, ST M 1 r → g M = some (a, M)
theorem tm16 {v : Nat} : ((v : Int)).tmod 16 = (v : Int) % 16 ∧ ((v : Int)).tdiv 16 = (v : Int) / 16 := ⟨Int.tmod_eq_emod_of_nonneg (by omega), Int.tdiv_eq_ediv_of_nonneg (by omega)⟩
theorem all_167 {B : Int} {r : Row} (W : WF B r) {g : Int → Int → Mem → Option (Int × Mem)} {v3 : Int} (h3 : 0 ≤ v3 ∧ v3 < r 865) (hg : ∀ acc, Tot r (g acc (v3 + 1))) : ∀ (d v F : Nat) (acc : Int), v + d = 16 → d < F → Tot r (f_L_all_b167 g F acc v3 v) := by
  intro d
  induction d with
  | zero =>
    intro v F acc h1 h2
    obtain ⟨F, rfl⟩ : ∃ k, F = k + 1 := ⟨F - 1, by omega⟩
    obtain ⟨a, ha⟩ := hg acc
    refine ⟨a, fun M hM => ?_⟩
    unfold f_L_all_b167
    rw [if_pos (by omega), if_pos (by omega)]
    exact ha M hM
  | succ d ih =>
    intro v F acc h1 h2
    obtain ⟨F, rfl⟩ : ∃ k, F = k + 1 := ⟨F - 1, by omega⟩
    by_cases c : 5 ≤ v
    · obtain ⟨a, ha⟩ := ih (v + 1) F ((31 * acc + 7 * i2l (r (756 + 16 * v3 + (v : Int)).toNat)) + i2l 0) (by omega) (by omega)
      push_cast at ha
      refine ⟨a, fun M hM => ?_⟩
      unfold f_L_all_b167 f_L_all_b209
      rw [if_pos (by omega), if_neg (by omega), t_remembered hM W h3 (by omega), zbS, if_pos (by omega), zltS]
      exact ha M hM
    · obtain ⟨a, ha⟩ := ih (v + 1) F ((31 * acc + 7 * i2l (r (756 + 16 * v3 + (v : Int)).toNat)) + i2l (rdV r v3 v)) (by omega) (by omega)
      push_cast at ha
      refine ⟨a, fun M hM => ?_⟩
      unfold f_L_all_b167 f_L_all_b209
      rw [if_pos (by omega), if_neg (by omega), t_remembered hM W h3 (by omega), zbS, if_neg (by omega), t_reader hM W h3 (by omega), zbS, zltS]
      exact ha M hM
theorem all_154 {B : Int} {r : Row} (W : WF B r) {R : Nat} (hR : r 865 = R) : ∀ (d v F : Nat) (acc : Int), v + d = R → d < F → Tot r (f_L_all_b154 F acc v) := by
  have hr := WF1_nr W.1
  intro d
  induction d with
  | zero =>
    intro v F acc h1 h2
    obtain ⟨F, rfl⟩ : ∃ k, F = k + 1 := ⟨F - 1, by omega⟩
    refine ⟨acc, fun M hM => ?_⟩
    unfold f_L_all_b154
    rw [t_count hM W (by decide), zbS, show cnV r 6 = r 865 from rfl, if_pos (by omega), if_pos (by omega), if_pos (by omega)]
  | succ d ih =>
    intro v F acc h1 h2
    obtain ⟨F, rfl⟩ : ∃ k, F = k + 1 := ⟨F - 1, by omega⟩
    obtain ⟨a, ha⟩ := all_167 W (g := f_L_all_b154 F) (v3 := (v : Int)) (by omega) (fun acc' => by
      have h := ih (v + 1) F acc' (by omega) (by omega)
      push_cast at h
      exact h) 16 0 100000 acc rfl (by decide)
    refine ⟨a, fun M hM => ?_⟩
    unfold f_L_all_b154
    rw [t_count hM W (by decide), zbS, show cnV r 6 = r 865 from rfl, if_pos (by omega), if_pos (by omega), if_neg (by omega)]
    exact ha M hM
theorem all_120 {B : Int} {r : Row} (W : WF B r) : ∀ (d v F : Nat) (acc : Int), v + d = 112 → d < F → Tot r (f_L_all_b120 F acc v) := by
  have hr := WF1_nr W.1
  intro d
  induction d with
  | zero =>
    intro v F acc h1 h2
    obtain ⟨F, rfl⟩ : ∃ k, F = k + 1 := ⟨F - 1, by omega⟩
    obtain ⟨a, ha⟩ := all_154 W (R := (r 865).toNat) (by omega) (r 865).toNat 0 100000 acc (by omega) (by omega)
    refine ⟨a, fun M hM => ?_⟩
    unfold f_L_all_b120
    rw [if_pos (by omega), if_pos (by omega)]
    exact ha M hM
  | succ d ih =>
    intro v F acc h1 h2
    obtain ⟨F, rfl⟩ : ∃ k, F = k + 1 := ⟨F - 1, by omega⟩
    obtain ⟨e1, e2⟩ := tm16 (v := v)
    obtain ⟨a, ha⟩ := ih (v + 1) F (31 * acc + i2l (shV r ((v : Int).tmod 16) ((v : Int).tdiv 16))) (by omega) (by omega)
    push_cast at ha
    refine ⟨a, fun M hM => ?_⟩
    unfold f_L_all_b120
    rw [if_pos (by omega), if_neg (by omega), t_shard hM W (by omega) ⟨by omega, by omega⟩, zbS, zltS]
    exact ha M hM
theorem all_76 {B : Int} {r : Row} (W : WF B r) {g : Int → Int → Mem → Option (Int × Mem)} {v3 : Int} (h3 : 0 ≤ v3 ∧ v3 < r 863) (hg : ∀ acc, Tot r (g acc (v3 + 1))) : ∀ (d v F : Nat) (acc : Int), v + d = 48 → d < F → Tot r (f_L_all_b76 g F acc v3 v) := by
  intro d
  induction d with
  | zero =>
    intro v F acc h1 h2
    obtain ⟨F, rfl⟩ : ∃ k, F = k + 1 := ⟨F - 1, by omega⟩
    obtain ⟨a, ha⟩ := hg acc
    refine ⟨a, fun M hM => ?_⟩
    unfold f_L_all_b76
    rw [if_pos (by omega), if_pos (by omega)]
    exact ha M hM
  | succ d ih =>
    intro v F acc h1 h2
    obtain ⟨F, rfl⟩ : ∃ k, F = k + 1 := ⟨F - 1, by omega⟩
    obtain ⟨e1, e2⟩ := tm16 (v := v)
    obtain ⟨a, ha⟩ := ih (v + 1) F (31 * acc + i2l (trV r v3 ((v : Int).tmod 16) ((v : Int).tdiv 16))) (by omega) (by omega)
    push_cast at ha
    refine ⟨a, fun M hM => ?_⟩
    unfold f_L_all_b76
    rw [if_pos (by omega), if_neg (by omega), t_track hM W h3 (by omega) (by omega), zbS, zltS]
    exact ha M hM
theorem all_45 {B : Int} {r : Row} (W : WF B r) {g : Int → Int → Mem → Option (Int × Mem)} {v3 : Int} (h3 : 0 ≤ v3 ∧ v3 < r 863) (hg : ∀ acc, Tot r (g acc (v3 + 1))) : ∀ (d v F : Nat) (acc : Int), v + d = 9 → d < F → Tot r (f_L_all_b45 g F acc v3 v) := by
  intro d
  induction d with
  | zero =>
    intro v F acc h1 h2
    obtain ⟨F, rfl⟩ : ∃ k, F = k + 1 := ⟨F - 1, by omega⟩
    obtain ⟨a, ha⟩ := all_76 W h3 hg 48 0 100000 acc rfl (by decide)
    refine ⟨a, fun M hM => ?_⟩
    unfold f_L_all_b45
    rw [if_pos (by omega), if_pos (by omega)]
    exact ha M hM
  | succ d ih =>
    intro v F acc h1 h2
    obtain ⟨F, rfl⟩ : ∃ k, F = k + 1 := ⟨F - 1, by omega⟩
    obtain ⟨a, ha⟩ := ih (v + 1) F (31 * acc + i2l (paV r v3 v)) (by omega) (by omega)
    push_cast at ha
    refine ⟨a, fun M hM => ?_⟩
    unfold f_L_all_b45
    rw [if_pos (by omega), if_neg (by omega), t_pasture hM W h3 ⟨by omega, by omega⟩, zbS, zltS]
    exact ha M hM
theorem all_33 {B : Int} {r : Row} (W : WF B r) {N : Nat} (hN : r 863 = N) : ∀ (d v F : Nat) (acc : Int), v + d = N → d < F → Tot r (f_L_all_b33 F acc v) := by
  have hr := WF1_n W.1
  intro d
  induction d with
  | zero =>
    intro v F acc h1 h2
    obtain ⟨F, rfl⟩ : ∃ k, F = k + 1 := ⟨F - 1, by omega⟩
    obtain ⟨a, ha⟩ := all_120 W 112 0 100000 acc rfl (by decide)
    refine ⟨a, fun M hM => ?_⟩
    unfold f_L_all_b33
    rw [t_count hM W (by decide), zbS, show cnV r 3 = r 863 from rfl, if_pos (by omega), if_pos (by omega), if_pos (by omega)]
    exact ha M hM
  | succ d ih =>
    intro v F acc h1 h2
    obtain ⟨F, rfl⟩ : ∃ k, F = k + 1 := ⟨F - 1, by omega⟩
    obtain ⟨a, ha⟩ := all_45 W (g := f_L_all_b33 F) (v3 := (v : Int)) (by omega) (fun acc' => by
      have h := ih (v + 1) F acc' (by omega) (by omega)
      push_cast at h
      exact h) 9 0 100000 acc rfl (by decide)
    refine ⟨a, fun M hM => ?_⟩
    unfold f_L_all_b33
    rw [t_count hM W (by decide), zbS, show cnV r 3 = r 863 from rfl, if_pos (by omega), if_pos (by omega), if_neg (by omega)]
    exact ha M hM
theorem all_6 {B : Int} {r : Row} (W : WF B r) : ∀ (d v F : Nat) (acc : Int), v + d = 13 → d < F → Tot r (f_L_all_b6 F acc v) := by
  have hr := WF1_n W.1
  intro d
  induction d with
  | zero =>
    intro v F acc h1 h2
    obtain ⟨F, rfl⟩ : ∃ k, F = k + 1 := ⟨F - 1, by omega⟩
    obtain ⟨a, ha⟩ := all_33 W (N := (r 863).toNat) (by omega) (r 863).toNat 0 100000 acc (by omega) (by omega)
    refine ⟨a, fun M hM => ?_⟩
    unfold f_L_all_b6
    rw [if_pos (by omega), if_pos (by omega)]
    exact ha M hM
  | succ d ih =>
    intro v F acc h1 h2
    obtain ⟨F, rfl⟩ : ∃ k, F = k + 1 := ⟨F - 1, by omega⟩
    obtain ⟨a, ha⟩ := ih (v + 1) F (31 * acc + i2l (cnV r v)) (by omega) (by omega)
    push_cast at ha
    refine ⟨a, fun M hM => ?_⟩
    unfold f_L_all_b6
    rw [if_pos (by omega), if_neg (by omega), t_count hM W (by omega), zbS, zltS]
    exact ha M hM
/-- all numbers, in one -/
theorem q_all {B : Int} {r : Row} (W : WF B r) : Tot r f_L_all := by
  obtain ⟨a, ha⟩ := all_6 W 13 0 100000 19 rfl (by decide)
  refine ⟨a, fun M hM => ?_⟩
  unfold f_L_all
  exact ha M hM
theorem q_low {v n : Int} (hn : 0 < n ∧ n ≤ 1000000) (M : Mem) : ∃ x, f_L_low v n M = some (x, M) ∧ 0 ≤ x ∧ x < n := by
  have hi : 0 ≤ iand v 2147483647 ∧ iand v 2147483647 ≤ 2147483647 := by
    have h1 : (zI v &&& zI 2147483647).toBitVec = (zI v).toBitVec &&& (zI 2147483647).toBitVec := rfl
    have h2 : (zI 2147483647).toBitVec.toNat = 2147483647 := by decide
    have h3 : ((zI v).toBitVec &&& (zI 2147483647).toBitVec).toNat ≤ 2147483647 := by
      rw [BitVec.toNat_and, h2]
      exact Nat.and_le_right
    have h4 : iand v 2147483647 = ((zI v).toBitVec &&& (zI 2147483647).toBitVec).toInt := rfl
    rw [h4, BitVec.toInt_eq_toNat_cond]
    rw [if_pos (by omega)]
    omega
  refine ⟨(iand v 2147483647).tmod n, ?_, ?_, ?_⟩
  · unfold f_L_low
    rw [if_pos ⟨by omega, by omega⟩, if_pos ⟨by omega, by omega⟩, if_pos (by omega)]
  · rw [Int.tmod_eq_emod_of_nonneg hi.1]
    exact Int.emod_nonneg _ (by omega)
  · rw [Int.tmod_eq_emod_of_nonneg hi.1]
    exact Int.emod_lt_of_pos _ hn.1

theorem sumN_0 {n : Nat} {g : Nat → Int} (h : ∀ k, k < n → g k = 0) : sumN n g = 0 := by
  induction n with
  | zero => rfl
  | succ n ih => rw [sumN_succ, ih (fun k hk => h k (by omega)), h n (by omega)]; rfl
theorem sumN_tail {n N : Nat} {g : Nat → Int} (hN : N ≤ n) (h : ∀ k, N ≤ k → k < n → g k = 0) : sumN n g = sumN N g := by
  induction n with
  | zero => rw [show N = 0 by omega]
  | succ n ih =>
    by_cases e : N = n + 1
    · rw [e]
    · rw [sumN_succ, ih (by omega) (fun k h1 h2 => h k h1 (by omega)), h n (by omega) (by omega)]; omega
theorem WF1_trk8 {B : Int} {r : Row} (W : WF1 B r) {p : Int} (p0 : 0 ≤ p) (p1 : p < 8) : ∀ h : Int, 0 ≤ h → h < 16 → 0 ≤ r (160 + 16 * p + h).toNat ∧ r (160 + 16 * p + h).toNat ≤ 8 := fun h h0 h1 => by
  have h2 := WF1_trk W p0 p1 h0 h1
  have h3 := WF1_n W
  omega
def trkAll (r : Row)  (n : Nat) : Int := sumN n fun p => trkIn r (p : Int) 16
theorem trkAll_s (r : Row)  (n : Nat) : trkAll r  (n + 1) = trkAll r  n + (trkIn r (n : Int) 16) := rfl
set_option maxRecDepth 20000 in
theorem q_countAll_l {B : Int} {k b : Nat} {M : Mem} {r : Row} (hk : k = b + 10) (hS : ST0 M b r) (W : WF1 B r) : ∀ (d v F : Nat), v + d = 8 → d < F → f_X8_countAll_b4 k F  (trkAll r v)  v M = some ((trkAll r 8), M) := by
  intro d
  induction d with
  | zero =>
    intro v F h1 h2
    obtain ⟨F, rfl⟩ : ∃ k, F = k + 1 := ⟨F - 1, by omega⟩
    obtain rfl : v = 8 := by omega
    unfold f_X8_countAll_b4
    rw [if_pos (by omega), if_pos (by omega)]
  | succ d ih =>
    intro v F h1 h2
    obtain ⟨F, rfl⟩ : ∃ k, F = k + 1 := ⟨F - 1, by omega⟩
    have h3 := ih (v + 1) F (by omega) (by omega)
    push_cast at h3
    unfold f_X8_countAll_b4
    rw [if_pos (by omega), if_neg (by omega), q_countIn hk hS (by omega) (WF1_trk8 W (by omega) (by omega))]
    simp only [zbnd, zlt]
    rw [trkAll_s] at h3
    exact h3
theorem q_countAll {B : Int} {k b : Nat} {M : Mem} {r : Row} (hk : k = b + 10) (hS : ST0 M b r) (W : WF1 B r) : f_X8_countAll k M = some (trkAll r 8, M) := q_countAll_l hk hS W 8 0 100000 rfl (by decide)
theorem trkAll_n {r : Row} {N : Nat} (W2 : WF2 r) (hN : r 863 = N) (h8 : N ≤ 8) : trkAll r 8 = trkAll r N := by
  refine sumN_tail h8 (fun k h1 h2 => sumN_0 (fun h hh => ?_))
  have h3 := (W2.2.2.1 k h (by omega) (by omega) (by omega) (by omega)).2
  rw [if_neg (by omega)]
def trkOf (r : Row) (h : Int) (n : Nat) : Int := sumN n fun p => if 0 < r (160 + 16 * (p : Int) + h).toNat then 1 else 0
theorem trkOf_s (r : Row) (h : Int) (n : Nat) : trkOf r h (n + 1) = trkOf r h n + (if 0 < r (160 + 16 * (n : Int) + h).toNat then 1 else 0) := rfl
set_option maxRecDepth 20000 in
theorem q_countOf_l {B : Int} {k b : Nat} {M : Mem} {r : Row} (hk : k = b + 10) (hS : ST0 M b r) (W : WF1 B r) {h : Int} (hh : 0 ≤ h ∧ h < 16) : ∀ (d v F : Nat), v + d = 8 → d < F → f_X8_countOf_b4 k F h (trkOf r h v)  v M = some ((trkOf r h 8), M) := by
  intro d
  induction d with
  | zero =>
    intro v F h1 h2
    obtain ⟨F, rfl⟩ : ∃ k, F = k + 1 := ⟨F - 1, by omega⟩
    obtain rfl : v = 8 := by omega
    unfold f_X8_countOf_b4
    rw [if_pos (by omega), if_pos (by omega)]
  | succ d ih =>
    intro v F h1 h2
    obtain ⟨F, rfl⟩ : ∃ k, F = k + 1 := ⟨F - 1, by omega⟩
    have h3 := ih (v + 1) F (by omega) (by omega)
    push_cast at h3
    unfold f_X8_countOf_b4
    have h9 := WF1_trk8 W (p := (v : Int)) (by omega) (by omega) h hh.1 hh.2
    rw [if_pos (by omega), if_neg (by omega), q_isAt hk hS (by omega) hh h9]
    simp only [zbnd, f_X8_countOf_b22, bitR, bit0]
    rw [trkOf_s] at h3
    split at h3
    · rw [if_pos (by assumption)]; exact h3
    · rw [if_neg (by assumption)]; simpa using h3
theorem q_countOf {B : Int} {k b : Nat} {M : Mem} {r : Row} (hk : k = b + 10) (hS : ST0 M b r) (W : WF1 B r) {h : Int} (hh : 0 ≤ h ∧ h < 16) : f_X8_countOf k h M = some (trkOf r h 8, M) := q_countOf_l hk hS W hh 8 0 100000 rfl (by decide)
theorem trkOf_n {r : Row} {N : Nat} (W2 : WF2 r) (hN : r 863 = N) (h8 : N ≤ 8) {h : Int} (hh : 0 ≤ h ∧ h < 16) : trkOf r h 8 = trkOf r h N := by
  refine sumN_tail h8 (fun k h1 h2 => ?_)
  have h3 := (W2.2.2.1 k h (by omega) (by omega) hh.1 hh.2).2
  rw [if_neg (by omega)]
/-- shard k is asked before shard h -/
abbrev bef (r : Row) (k h : Int) : Prop := r (432 + h).toNat < r (432 + k).toNat ∨ (k < h ∧ r (432 + k).toNat = r (432 + h).toNat)
def ordF (r : Row) (h : Int) (n : Nat) : Int := sumN n fun k => if bef r (k : Int) h then 1 else 0
theorem ordF_s (r : Row) (h : Int) (n : Nat) : ordF r h (n + 1) = ordF r h n + (if bef r (n : Int) h then 1 else 0) := rfl
theorem q_before {B : Int} {k b : Nat} {M : Mem} {r : Row} (hk : k = b + 13) (hS : ST0 M b r) (W : WF1 B r) {x y : Int} (hx : 0 ≤ x ∧ x < 16) (hy : 0 ≤ y ∧ y < 16) : f_X0_isAskedBefore k x y M = some (if bef r x y then 1 else 0, M) := by
  have h9 := WF1_heat W hx.1 hx.2
  have h8 := WF1_heat W hy.1 hy.2
  have h5 := hS.heat hx.1 hx.2
  have h6 := hS.heat hy.1 hy.2
  subst hk
  unfold f_X0_isAskedBefore
  simp only [f_X0_isAskedBefore_b35, f_X0_isAskedBefore_b39, f_X0_isAskedBefore_b40]
  rw [show b + 13 + 2 = b + 15 from rfl, h5, h6]
  simp only [enc, Bool.false_eq_true, if_false]
  rw [if_pos hx, if_pos hy, if_pos (by omega), if_pos (by omega)]
  by_cases hb : bef r x y
  · rw [if_pos hb]
    rcases hb with hb | ⟨hb, hc⟩
    · rw [if_pos hb]; simp
    · rw [if_neg (by omega), if_pos hc, if_pos (by omega), if_pos (by omega), if_neg (by omega)]; simp
  · rw [if_neg hb, if_neg (fun q => hb (Or.inl q))]
    by_cases hc : r (432 + x).toNat = r (432 + y).toNat
    · rw [if_pos hc, if_pos (by omega), if_pos (by omega), if_pos (Int.not_lt.mp (fun q => hb (Or.inr ⟨q, hc⟩)))]; simp
    · rw [if_neg hc]; simp
set_option maxRecDepth 20000 in
theorem q_place_l {B : Int} {k b : Nat} {M : Mem} {r : Row} (hk : k = b + 13) (hS : ST0 M b r) (W : WF1 B r) {h : Int} (hh : 0 ≤ h ∧ h < 16) : ∀ (d v F : Nat), v + d = 16 → d < F → f_X0_placeByHeat_b4 k F h (ordF r h v)  v M = some ((ordF r h 16), M) := by
  intro d
  induction d with
  | zero =>
    intro v F h1 h2
    obtain ⟨F, rfl⟩ : ∃ k, F = k + 1 := ⟨F - 1, by omega⟩
    obtain rfl : v = 16 := by omega
    unfold f_X0_placeByHeat_b4
    rw [if_pos (by omega), if_pos (by omega)]
  | succ d ih =>
    intro v F h1 h2
    obtain ⟨F, rfl⟩ : ∃ k, F = k + 1 := ⟨F - 1, by omega⟩
    have h3 := ih (v + 1) F (by omega) (by omega)
    push_cast at h3
    unfold f_X0_placeByHeat_b4
    rw [if_pos (by omega), if_neg (by omega), q_before hk hS W (by omega) hh]
    simp only [zbnd, f_X0_placeByHeat_b22, bitR, bit0]
    rw [ordF_s] at h3
    split at h3
    · rw [if_pos (by assumption)]; exact h3
    · rw [if_neg (by assumption)]; simpa using h3
theorem q_place {B : Int} {k b : Nat} {M : Mem} {r : Row} (hk : k = b + 13) (hS : ST0 M b r) (W : WF1 B r) {h : Int} (hh : 0 ≤ h ∧ h < 16) : f_X0_placeByHeat k h M = some (ordF r h 16, M) := q_place_l hk hS W hh 16 0 100000 rfl (by decide)
def lokF (r : Row) (h : Int) (n : Nat) : Int := match n with
  | 0 => -5
  | k + 1 => if ((k : Int) ≠ r (416 + h).toNat ∧ cntAt r (k : Int) 16 < r ((0 + 4 * (k : Int)) + 1).toNat) ∧ (lokF r h k = -5 ∨ disF r (k : Int) < disF r (lokF r h k)) then (k : Int) else lokF r h k
theorem lokF_s (r : Row) (h : Int) (k : Nat) : lokF r h (k + 1) = if ((k : Int) ≠ r (416 + h).toNat ∧ cntAt r (k : Int) 16 < r ((0 + 4 * (k : Int)) + 1).toNat) ∧ (lokF r h k = -5 ∨ disF r (k : Int) < disF r (lokF r h k)) then (k : Int) else lokF r h k := rfl
theorem lokF_b (r : Row) (h : Int) (n : Nat) : lokF r h n = -5 ∨ (0 ≤ lokF r h n ∧ lokF r h n < n) := by
  induction n with
  | zero => exact Or.inl rfl
  | succ n ih =>
    rw [lokF_s]
    split
    · right; omega
    · rcases ih with h | h
      · exact Or.inl h
      · right; omega
theorem cntAt_b (r : Row) (p : Int) (n : Nat) : 0 ≤ cntAt r p n ∧ cntAt r p n ≤ n := by
  induction n with
  | zero => exact ⟨Int.le_refl _, Int.le_refl _⟩
  | succ n ih =>
    rw [cntAt_s]
    split <;> omega
theorem q_hasRoom {B : Int} {k b : Nat} {M : Mem} {r : Row} (hk : k = b + 3) (hS : ST M b r) (W : WF1 B r) {p : Int} (p0 : 0 ≤ p) (p1 : p < 8) : f_X2_hasRoom k p M = some (if cntAt r p 16 < r ((0 + 4 * p) + 1).toNat then 1 else 0, M) := by
  have h6 := WF1_room W p0 p1
  have h5 := cntAt_b r p 16
  have h4 := hS.1.room p0 p1
  have h3 := hS.2 p p0 p1
  subst hk
  unfold f_X2_hasRoom f_X2_hasRoom_b20
  rw [show b + 3 + 3 = b + 6 from rfl, show b + 3 + 2 = b + 5 from rfl, h4, h3]
  simp only [enc, Bool.false_eq_true, if_false]
  rw [if_pos (by omega), if_pos (by omega), if_pos (by omega)]
  by_cases e : r ((0 + 4 * p) + 1).toNat ≤ cntAt r p 16
  · rw [if_pos e, if_neg (Int.not_lt.mpr e)]; simp
  · rw [if_neg e, if_pos (Int.not_le.mp e)]; simp
def lstF (r : Row) (h : Int) (n : Nat) : Int := if lokF r h n = -5 then 91 else disF r (lokF r h n)
set_option maxRecDepth 20000 in
theorem q_best_l {B : Int} {k b : Nat} {M : Mem} {r : Row} (hk : k = b + 3) (hS : ST M b r) (W : WF1 B r) {h : Int} (hh : 0 ≤ h ∧ h < 16) {N : Nat} (hN : r 863 = N) (h8 : N ≤ 8) : ∀ (d v F : Nat), v + d = N → d < F → f_X2_bestOther_b10 k F (r (416 + h).toNat) (slatF r) (lokF r h v) (lstF r h v) v M = some (lokF r h N, M) := by
  intro d
  induction d with
  | zero =>
    intro v F h1 h2
    obtain ⟨F, rfl⟩ : ∃ k, F = k + 1 := ⟨F - 1, by omega⟩
    obtain rfl : v = N := by omega
    have h6 := hS.1.np
    subst hk
    unfold f_X2_bestOther_b10
    rw [if_pos (by omega), if_pos (by omega), if_pos (by omega)]
  | succ d ih =>
    intro v F h1 h2
    obtain ⟨F, rfl⟩ : ∃ k, F = k + 1 := ⟨F - 1, by omega⟩
    have h3 := ih (v + 1) F (by omega) (by omega)
    push_cast at h3
    have h6 := hS.1.np
    have h9 := WF1_at W hh.1 hh.2
    have h7 := lokF_b r h v
    have h4 := disF_b W (p := (v : Int)) (by omega) (by omega)
    have hz := slatF_b W
    have h6k : M k 0 = r 863 := by rw [hk]; exact h6
    unfold f_X2_bestOther_b10
    rw [if_pos (by omega), if_pos (by omega), if_neg (by omega), if_pos (by omega)]
    simp only [f_X2_bestOther_b58]
    by_cases e1 : (v : Int) = r (416 + h).toNat
    · have hl : lokF r h (v + 1) = lokF r h v := by rw [lokF_s, if_neg (fun q => q.1.1 e1)]
      have hl2 : lstF r h (v + 1) = lstF r h v := by unfold lstF; rw [hl]
      rw [hl, hl2] at h3
      rw [if_pos e1]
      exact h3
    · rw [if_neg e1, q_hasRoom hk hS W (by omega) (by omega)]
      simp only [zbnd, bitR, bit0]
      by_cases e2 : cntAt r v 16 < r ((0 + 4 * (v : Int)) + 1).toNat
      · rw [if_pos e2, q_distance hk hS.1 W (by omega) (by omega) hz]
        simp only [zbnd]
        rw [q_distance hk hS.1 W (by omega) (by omega) hz]
        simp only [zbnd]
        rw [show iabs (r (0 + 4 * (v : Int)).toNat - slatF r) = disF r v from rfl]
        have hls : 0 ≤ lstF r h v ∧ lstF r h v ≤ 91 := by
          unfold lstF
          split
          · omega
          · have h10 := disF_b W (p := lokF r h v) (by omega) (by omega)
            omega
        rw [if_pos (by omega), if_pos (by omega)]
        by_cases e4 : lstF r h v ≤ disF r v
        · have hl : lokF r h (v + 1) = lokF r h v := by
            rw [lokF_s, if_neg]
            rintro ⟨-, q⟩
            unfold lstF at e4
            rcases q with q | q
            · rw [if_pos q] at e4; omega
            · by_cases q5 : lokF r h v = -5
              · rw [if_pos q5] at e4; omega
              · rw [if_neg q5] at e4; omega
          have hl2 : lstF r h (v + 1) = lstF r h v := by unfold lstF; rw [hl]
          rw [hl, hl2] at h3
          rw [if_pos e4]
          exact h3
        · have hl : lokF r h (v + 1) = v := by
            rw [lokF_s, if_pos]
            refine ⟨⟨e1, e2⟩, ?_⟩
            by_cases q5 : lokF r h v = -5
            · exact Or.inl q5
            · right
              unfold lstF at e4
              rw [if_neg q5] at e4
              omega
          have hl2 : lstF r h (v + 1) = disF r v := by unfold lstF; rw [hl, if_neg (by omega)]
          rw [hl, hl2] at h3
          rw [if_neg e4]
          exact h3
      · have hl : lokF r h (v + 1) = lokF r h v := by rw [lokF_s, if_neg (fun q => e2 q.1.2)]
        have hl2 : lstF r h (v + 1) = lstF r h v := by unfold lstF; rw [hl]
        rw [hl, hl2] at h3
        rw [if_neg e2]
        exact h3
theorem q_best {B : Int} {k b : Nat} {M : Mem} {r : Row} (hk : k = b + 3) (hS : ST M b r) (W : WF1 B r) {h : Int} (hh : 0 ≤ h ∧ h < 16) {N : Nat} (hN : r 863 = N) (h8 : N ≤ 8) : f_X2_bestOther k (r (416 + h).toNat) (slatF r) M = some (lokF r h N, M) := q_best_l hk hS W hh hN h8 N 0 100000 (by omega) (by omega)
set_option maxRecDepth 20000 in
theorem q_sum_l {c n L : Nat} (hL : L ≤ n) (hn : n ≤ 1000) {M : Mem} : ∀ (d v F : Nat), v + d = L → d < F → f_X9_sum_b4 c n F L (sumN v (M c)) v M = some (sumN L (M c), M) := by
  intro d
  induction d with
  | zero =>
    intro v F h1 h2
    obtain ⟨F, rfl⟩ : ∃ k, F = k + 1 := ⟨F - 1, by omega⟩
    obtain rfl : v = L := by omega
    unfold f_X9_sum_b4 f_X9_sum_b27
    rw [if_pos (by omega), if_pos (by omega), if_pos (by omega)]
  | succ d ih =>
    intro v F h1 h2
    obtain ⟨F, rfl⟩ : ∃ k, F = k + 1 := ⟨F - 1, by omega⟩
    have h3 := ih (v + 1) F (by omega) (by omega)
    rw [sumN_succ] at h3
    push_cast at h3
    unfold f_X9_sum_b4
    rw [if_pos (by omega), if_pos (by omega), if_neg (by omega), if_pos (by omega), if_neg (by omega), if_pos (by omega)]
    simp only [zlt, Int.toNat_natCast]
    exact h3
theorem q_sum {c n L : Nat} (hL : L ≤ n) (hn : n ≤ 1000) {M : Mem} : f_X9_sum c n L M = some (sumN L (M c), M) := q_sum_l hL hn L 0 100000 (by omega) (by omega)

/-! what holds of each place of a row; n the number of pastures, B a bound of a shard's moves -/
def okV (n B : Int) (j : Nat) (v : Int) : Prop :=
  if j < 32 then (if j % 4 = 0 then 0 ≤ v ∧ v ≤ 90 else if j % 4 = 1 then 0 ≤ v ∧ v ≤ 16 else if j % 4 = 2 then 0 ≤ v ∧ v ≤ 1 else True)
  else if j < 160 then 0 ≤ v ∧ v ≤ n
  else if j < 288 then 0 ≤ v ∧ v ≤ n
  else if j < 416 then 0 ≤ v
  else if j < 432 then 0 ≤ v ∧ v < n
  else if j < 448 then 0 ≤ v ∧ v ≤ 9999
  else if j < 464 then 0 ≤ v ∧ v ≤ B
  else if j < 720 then True
  else if j < 726 then (if j % 2 = 0 then 0 ≤ v ∧ v < n else 0 ≤ v ∧ v ≤ 7)
  else if j < 756 then (if (j - 726) % 5 = 0 then 0 ≤ v ∧ v < n else if (j - 726) % 5 = 4 then 0 ≤ v ∧ v ≤ 200 else True)
  else if j < 852 then 0 ≤ v ∧ v < n
  else if j < 856 then 0 ≤ v ∧ v ≤ 90
  else if j = 856 then 1 ≤ v ∧ v ≤ 30
  else if j = 857 then 1 ≤ v ∧ v ≤ 60
  else if j = 858 then 1 ≤ v ∧ v ≤ 90
  else if j = 859 then 0 ≤ v ∧ v ≤ 16
  else if j = 860 then 1 ≤ v ∧ v ≤ 30
  else if j = 861 then 0 ≤ v ∧ v ≤ 100
  else if j = 862 then 0 ≤ v ∧ v ≤ 10100
  else if j = 863 then 1 ≤ v ∧ v ≤ 8
  else if j = 864 then 0 ≤ v ∧ v ≤ 3
  else if j = 865 then 0 ≤ v ∧ v ≤ 6
  else True
def WF1 (B : Int) (r : Row) : Prop := ∀ j, j < 871 → okV (r 863) B j (r j)
set_option maxRecDepth 20000 in
theorem okV_mono {n n' B B' : Int} {j : Nat} {v : Int} (hn : n ≤ n') (hB : B ≤ B') (h : okV n B j v) : okV n' B' j v := by
  unfold okV at h ⊢
  by_cases c0 : j < 32
  · rw [if_pos c0] at h ⊢; exact h
  rw [if_neg c0] at h ⊢
  by_cases c1 : j < 160
  · rw [if_pos c1] at h ⊢; omega
  rw [if_neg c1] at h ⊢
  by_cases c2 : j < 288
  · rw [if_pos c2] at h ⊢; omega
  rw [if_neg c2] at h ⊢
  by_cases c3 : j < 416
  · rw [if_pos c3] at h ⊢; exact h
  rw [if_neg c3] at h ⊢
  by_cases c4 : j < 432
  · rw [if_pos c4] at h ⊢; omega
  rw [if_neg c4] at h ⊢
  by_cases c5 : j < 448
  · rw [if_pos c5] at h ⊢; omega
  rw [if_neg c5] at h ⊢
  by_cases c6 : j < 464
  · rw [if_pos c6] at h ⊢; omega
  rw [if_neg c6] at h ⊢
  by_cases c7 : j < 720
  · rw [if_pos c7] at h ⊢; exact h
  rw [if_neg c7] at h ⊢
  by_cases c8 : j < 726
  · rw [if_pos c8] at h ⊢
    by_cases q : j % 2 = 0
    · rw [if_pos q] at h ⊢; omega
    · rw [if_neg q] at h ⊢; exact h
  rw [if_neg c8] at h ⊢
  by_cases c9 : j < 756
  · rw [if_pos c9] at h ⊢
    by_cases q : (j - 726) % 5 = 0
    · rw [if_pos q] at h ⊢; omega
    · rw [if_neg q] at h ⊢; exact h
  rw [if_neg c9] at h ⊢
  by_cases c10 : j < 852
  · rw [if_pos c10] at h ⊢; omega
  rw [if_neg c10] at h ⊢
  exact h
theorem WF1_up {B : Int} {r : Row} (h : WF1 B r) {j : Nat} {v : Int} (hj : j ≠ 863) (hv : okV (r 863) B j v) : WF1 B (up r j v) := by
  intro i hi
  rw [up_ne (show 863 ≠ j from fun q => hj q.symm)]
  by_cases e : i = j
  · subst e; rw [up_eq]; exact hv
  · rw [up_ne e]; exact h i hi
theorem WF1_upB {B B' : Int} {r : Row} (h : WF1 B r) (hB : B ≤ B') : WF1 B' r := fun j hj => okV_mono (Int.le_refl _) hB (h j hj)
theorem WF1_n {B : Int} {r : Row} (h : WF1 B r) : 1 ≤ r 863 ∧ r 863 ≤ 8 := h 863 (by decide)
theorem WF1_lat {B : Int} {r : Row} (W : WF1 B r) {p : Int} (p0 : 0 ≤ p) (p1 : p < 8) : 0 ≤ r (0 + 4 * p).toNat ∧ r (0 + 4 * p).toNat ≤ 90 := by
  have hh := W (0 + 4 * p).toNat (by omega)
  unfold okV at hh
  rw [if_pos (by omega), if_pos (by omega)] at hh
  exact hh
theorem WF1_room {B : Int} {r : Row} (W : WF1 B r) {p : Int} (p0 : 0 ≤ p) (p1 : p < 8) : 0 ≤ r ((0 + 4 * p) + 1).toNat ∧ r ((0 + 4 * p) + 1).toNat ≤ 16 := by
  have hh := W ((0 + 4 * p) + 1).toNat (by omega)
  unfold okV at hh
  rw [if_pos (by omega), if_neg (by omega), if_pos (by omega)] at hh
  exact hh
theorem WF1_inn {B : Int} {r : Row} (W : WF1 B r) {p : Int} (p0 : 0 ≤ p) (p1 : p < 8) : 0 ≤ r ((0 + 4 * p) + 2).toNat ∧ r ((0 + 4 * p) + 2).toNat ≤ 1 := by
  have hh := W ((0 + 4 * p) + 2).toNat (by omega)
  unfold okV at hh
  rw [if_pos (by omega), if_neg (by omega), if_neg (by omega), if_pos (by omega)] at hh
  exact hh
theorem WF1_post {B : Int} {r : Row} (W : WF1 B r) {p : Int} (p0 : 0 ≤ p) (p1 : p < 8) {h : Int} (h0 : 0 ≤ h) (h1 : h < 16) : 0 ≤ r (32 + 16 * p + h).toNat ∧ r (32 + 16 * p + h).toNat ≤ r 863 := by
  have hh := W (32 + 16 * p + h).toNat (by omega)
  unfold okV at hh
  rw [if_neg (by omega), if_pos (by omega)] at hh
  exact hh
theorem WF1_trk {B : Int} {r : Row} (W : WF1 B r) {p : Int} (p0 : 0 ≤ p) (p1 : p < 8) {h : Int} (h0 : 0 ≤ h) (h1 : h < 16) : 0 ≤ r (160 + 16 * p + h).toNat ∧ r (160 + 16 * p + h).toNat ≤ r 863 := by
  have hh := W (160 + 16 * p + h).toNat (by omega)
  unfold okV at hh
  rw [if_neg (by omega), if_neg (by omega), if_pos (by omega)] at hh
  exact hh
theorem WF1_left {B : Int} {r : Row} (W : WF1 B r) {p : Int} (p0 : 0 ≤ p) (p1 : p < 8) {h : Int} (h0 : 0 ≤ h) (h1 : h < 16) : 0 ≤ r (288 + 16 * p + h).toNat := by
  have hh := W (288 + 16 * p + h).toNat (by omega)
  unfold okV at hh
  rw [if_neg (by omega), if_neg (by omega), if_neg (by omega), if_pos (by omega)] at hh
  exact hh
theorem WF1_at {B : Int} {r : Row} (W : WF1 B r) {h : Int} (h0 : 0 ≤ h) (h1 : h < 16) : 0 ≤ r (416 + h).toNat ∧ r (416 + h).toNat < r 863 := by
  have hh := W (416 + h).toNat (by omega)
  unfold okV at hh
  rw [if_neg (by omega), if_neg (by omega), if_neg (by omega), if_neg (by omega), if_pos (by omega)] at hh
  exact hh
theorem WF1_heat {B : Int} {r : Row} (W : WF1 B r) {h : Int} (h0 : 0 ≤ h) (h1 : h < 16) : 0 ≤ r (432 + h).toNat ∧ r (432 + h).toNat ≤ 9999 := by
  have hh := W (432 + h).toNat (by omega)
  unfold okV at hh
  rw [if_neg (by omega), if_neg (by omega), if_neg (by omega), if_neg (by omega), if_neg (by omega), if_pos (by omega)] at hh
  exact hh
theorem WF1_mov {B : Int} {r : Row} (W : WF1 B r) {h : Int} (h0 : 0 ≤ h) (h1 : h < 16) : 0 ≤ r (448 + h).toNat ∧ r (448 + h).toNat ≤ B := by
  have hh := W (448 + h).toNat (by omega)
  unfold okV at hh
  rw [if_neg (by omega), if_neg (by omega), if_neg (by omega), if_neg (by omega), if_neg (by omega), if_neg (by omega), if_pos (by omega)] at hh
  exact hh
theorem WF1_wat {B : Int} {r : Row} (W : WF1 B r) {w : Int} (w0 : 0 ≤ w) (w1 : w < 3) : 0 ≤ r (720 + 2 * w).toNat ∧ r (720 + 2 * w).toNat < r 863 := by
  have hh := W (720 + 2 * w).toNat (by omega)
  unfold okV at hh
  rw [if_neg (by omega), if_neg (by omega), if_neg (by omega), if_neg (by omega), if_neg (by omega), if_neg (by omega), if_neg (by omega), if_neg (by omega), if_pos (by omega), if_pos (by omega)] at hh
  exact hh
theorem WF1_wst {B : Int} {r : Row} (W : WF1 B r) {w : Int} (w0 : 0 ≤ w) (w1 : w < 3) : 0 ≤ r ((720 + 2 * w) + 1).toNat ∧ r ((720 + 2 * w) + 1).toNat ≤ 7 := by
  have hh := W ((720 + 2 * w) + 1).toNat (by omega)
  unfold okV at hh
  rw [if_neg (by omega), if_neg (by omega), if_neg (by omega), if_neg (by omega), if_neg (by omega), if_neg (by omega), if_neg (by omega), if_neg (by omega), if_pos (by omega), if_neg (by omega)] at hh
  exact hh
theorem WF1_home {B : Int} {r : Row} (W : WF1 B r) {i : Int} (i0 : 0 ≤ i) (i1 : i < 6) : 0 ≤ r (726 + 5 * i).toNat ∧ r (726 + 5 * i).toNat < r 863 := by
  have hh := W (726 + 5 * i).toNat (by omega)
  unfold okV at hh
  rw [if_neg (by omega), if_neg (by omega), if_neg (by omega), if_neg (by omega), if_neg (by omega), if_neg (by omega), if_neg (by omega), if_neg (by omega), if_neg (by omega), if_pos (by omega), if_pos (by omega)] at hh
  exact hh
theorem WF1_most {B : Int} {r : Row} (W : WF1 B r) {i : Int} (i0 : 0 ≤ i) (i1 : i < 6) : 0 ≤ r ((726 + 5 * i) + 4).toNat ∧ r ((726 + 5 * i) + 4).toNat ≤ 200 := by
  have hh := W ((726 + 5 * i) + 4).toNat (by omega)
  unfold okV at hh
  rw [if_neg (by omega), if_neg (by omega), if_neg (by omega), if_neg (by omega), if_neg (by omega), if_neg (by omega), if_neg (by omega), if_neg (by omega), if_neg (by omega), if_pos (by omega), if_neg (by omega), if_pos (by omega)] at hh
  exact hh
theorem WF1_mem {B : Int} {r : Row} (W : WF1 B r) {i : Int} (i0 : 0 ≤ i) (i1 : i < 6) {h : Int} (h0 : 0 ≤ h) (h1 : h < 16) : 0 ≤ r (756 + 16 * i + h).toNat ∧ r (756 + 16 * i + h).toNat < r 863 := by
  have hh := W (756 + 16 * i + h).toNat (by omega)
  unfold okV at hh
  rw [if_neg (by omega), if_neg (by omega), if_neg (by omega), if_neg (by omega), if_neg (by omega), if_neg (by omega), if_neg (by omega), if_neg (by omega), if_neg (by omega), if_neg (by omega), if_pos (by omega)] at hh
  exact hh
theorem WF1_sea {B : Int} {r : Row} (W : WF1 B r) {s : Int} (s0 : 0 ≤ s) (s1 : s < 4) : 0 ≤ r (852 + s).toNat ∧ r (852 + s).toNat ≤ 90 := by
  have hh := W (852 + s).toNat (by omega)
  unfold okV at hh
  rw [if_neg (by omega), if_neg (by omega), if_neg (by omega), if_neg (by omega), if_neg (by omega), if_neg (by omega), if_neg (by omega), if_neg (by omega), if_neg (by omega), if_neg (by omega), if_neg (by omega), if_pos (by omega)] at hh
  exact hh
theorem WF1_len {B : Int} {r : Row} (h : WF1 B r) : 1 ≤ r 856 ∧ r 856 ≤ 30 := h 856 (by decide)
theorem WF1_life {B : Int} {r : Row} (h : WF1 B r) : 1 ≤ r 857 ∧ r 857 ≤ 60 := h 857 (by decide)
theorem WF1_marg {B : Int} {r : Row} (h : WF1 B r) : 1 ≤ r 858 ∧ r 858 ≤ 90 := h 858 (by decide)
theorem WF1_drov {B : Int} {r : Row} (h : WF1 B r) : 0 ≤ r 859 ∧ r 859 ≤ 16 := h 859 (by decide)
theorem WF1_pst {B : Int} {r : Row} (h : WF1 B r) : 1 ≤ r 860 ∧ r 860 ≤ 30 := h 860 (by decide)
theorem WF1_warm {B : Int} {r : Row} (h : WF1 B r) : 0 ≤ r 861 ∧ r 861 ≤ 100 := h 861 (by decide)
theorem WF1_day {B : Int} {r : Row} (h : WF1 B r) : 0 ≤ r 862 ∧ r 862 ≤ 10100 := h 862 (by decide)
theorem WF1_nw {B : Int} {r : Row} (h : WF1 B r) : 0 ≤ r 864 ∧ r 864 ≤ 3 := h 864 (by decide)
theorem WF1_nr {B : Int} {r : Row} (h : WF1 B r) : 0 ≤ r 865 ∧ r 865 ≤ 6 := h 865 (by decide)
def WF2 (r : Row) : Prop :=
  (∀ p h : Int, 0 ≤ p → p < 8 → 0 ≤ h → h < 16 → r (160 + 16 * p + h).toNat ≠ 0 → r (288 + 16 * p + h).toNat ≤ r 862) ∧
  (∀ p h : Int, 0 ≤ p → p < 8 → 0 ≤ h → h < 16 → r ((0 + 4 * p) + 2).toNat = 0 → r (32 + 16 * p + h).toNat = 0) ∧
  (∀ p h : Int, r 863 ≤ p → p < 8 → 0 ≤ h → h < 16 → r ((0 + 4 * p) + 2).toNat = 0 ∧ r (160 + 16 * p + h).toNat = 0) ∧
  (∃ rk : Int → Int → Nat, ∀ p h : Int, 0 ≤ p → p < 8 → 0 ≤ h → h < 16 → r (160 + 16 * p + h).toNat ≠ 0 → rk h p < rk h (r (160 + 16 * p + h).toNat - 1))
def WF3 (r : Row) : Prop :=
  r 866 = sumN 16 (fun h => r (448 + (h : Int)).toNat) ∧
  r 869 = sumN 6 (fun i => r ((726 + 5 * (i : Int)) + 1).toNat) ∧
  r 870 = sumN 6 (fun i => r ((726 + 5 * (i : Int)) + 3).toNat) ∧
  (∀ i : Int, r 865 ≤ i → i < 6 → r ((726 + 5 * i) + 1).toNat = 0 ∧ r ((726 + 5 * i) + 3).toNat = 0)
def cntAt (r : Row) (p : Int) (n : Nat) : Int := sumN n fun h => if r (416 + (h : Int)).toNat = p then 1 else 0
theorem cntAt_s (r : Row) (p : Int) (n : Nat) : cntAt r p (n + 1) = cntAt r p n + (if r (416 + (n : Int)).toNat = p then 1 else 0) := rfl
/-- the class's 29 cells from b on hold the row; the herds' sizes besides -/
def ST (M : Mem) (b : Nat) (r : Row) : Prop := ST0 M b r ∧ ∀ p : Int, 0 ≤ p → p < 8 → M (b + 6) p.toNat = cntAt r p 16
def WF (B : Int) (r : Row) : Prop := WF1 B r ∧ WF2 r ∧ WF3 r

theorem zR_ok : ∀ j, j < 6 → 0 ≤ zR0 j ∧ zR1 j ≤ 100 := by decide
/-- the bounds of a setting, and what it may become -/
theorem c_setrow {B : Int} {r : Row} (W : WF B r) {v1 v2 : Int} (h1 : 0 ≤ v1 ∧ v1 < 6) (h2 : zR0 v1.toNat ≤ v2 ∧ v2 ≤ zR1 v1.toNat) : WF B (up r (856 + v1).toNat v2) := by
  refine ⟨WF1_up W.1 (by omega) ?_, WF2_c (by have := WF1_n W.1; omega) (fun j hj => up_ne (by omega)) W.2.1, WF3_c (WF1_nr W.1).1 (fun j j1 j2 j3 j4 => up_ne (by omega)) W.2.2⟩
  have hc : v1 = 0 ∨ v1 = 1 ∨ v1 = 2 ∨ v1 = 3 ∨ v1 = 4 ∨ v1 = 5 := by omega
  rcases hc with rfl | rfl | rfl | rfl | rfl | rfl
  · exact (show 1 ≤ v2 ∧ v2 ≤ 30 from h2)
  · exact (show 1 ≤ v2 ∧ v2 ≤ 60 from h2)
  · exact (show 1 ≤ v2 ∧ v2 ≤ 90 from h2)
  · exact (show 0 ≤ v2 ∧ v2 ≤ 16 from h2)
  · exact (show 1 ≤ v2 ∧ v2 ≤ 30 from h2)
  · exact (show 0 ≤ v2 ∧ v2 ≤ 100 from h2)

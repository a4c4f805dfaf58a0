def tailF (g : Row) (i ho cr : Int) : Row := up (up (up (up (up (up g ((726 + 5 * i) + 1).toNat (g ((726 + 5 * i) + 1).toNat + 1)) ((726 + 5 * i) + 2).toNat (g ((726 + 5 * i) + 2).toNat + ho)) ((726 + 5 * i) + 3).toNat (g ((726 + 5 * i) + 3).toNat + cr)) ((726 + 5 * i) + 4).toNat (imax (g ((726 + 5 * i) + 4).toNat) ho)) 869 (g 869 + 1)) 870 (g 870 + cr)
theorem tail_eq {r g : Row} {i h ho cr : Int} {S N : Nat} (hi : 0 ≤ i ∧ i < 6) (hh : 0 ≤ h ∧ h < 16) (hN : N ≤ 8) (hg : g = snt (up (up r (432 + h).toNat (imin (r (432 + h).toNat + r 861) 9999)) (756 + 16 * i + h).toNat (r (416 + h).toNat)) S N) : tailF g i ho cr = rchF r i h ho cr S N := by
  have gv : ∀ j, 32 ≤ j → j ≠ (432 + h).toNat → j ≠ (756 + 16 * i + h).toNat → g j = r j := fun j h1 h2 h3 => by rw [hg, snt_o hN (Or.inl h1), up_ne h3, up_ne h2]
  have g1 := gv ((726 + 5 * i) + 1).toNat (by omega) (by omega) (by omega)
  have g2 := gv ((726 + 5 * i) + 2).toNat (by omega) (by omega) (by omega)
  have g3 := gv ((726 + 5 * i) + 3).toNat (by omega) (by omega) (by omega)
  have g4 := gv ((726 + 5 * i) + 4).toNat (by omega) (by omega) (by omega)
  have g5 := gv 869 (by omega) (by omega) (by omega)
  have g6 := gv 870 (by omega) (by omega) (by omega)
  have k1 : noteF r i h ho cr (432 + h).toNat = r (432 + h).toNat := noteF_o hi hh (by omega)
  have k2 : noteF r i h ho cr 861 = r 861 := noteF_o hi hh (by omega)
  have k3 : warmF (noteF r i h ho cr) h 869 = r 869 := by unfold warmF; rw [up_ne (by omega)]; exact noteF_o hi hh (by omega)
  have k4 : warmF (noteF r i h ho cr) h 870 = r 870 := by unfold warmF; rw [up_ne (by omega)]; exact noteF_o hi hh (by omega)
  funext j
  by_cases hj : j < 32
  · unfold tailF
    rw [up_ne (by omega), up_ne (by omega), up_ne (by omega), up_ne (by omega), up_ne (by omega), up_ne (by omega), hg]
    have k5 : sumsF (warmF (noteF r i h ho cr) h) cr j = r j := by
      unfold sumsF warmF
      rw [up_ne (by omega), up_ne (by omega), up_ne (by omega)]
      exact noteF_o hi hh (by omega)
    have k6 : (up (up r (432 + h).toNat (imin (r (432 + h).toNat + r 861) 9999)) (756 + 16 * i + h).toNat (r (416 + h).toNat)) j = r j := by rw [up_ne (by omega), up_ne (by omega)]
    unfold rchF snt
    rw [k5, k6]
  · have e : rchF r i h ho cr S N j = sumsF (warmF (noteF r i h ho cr) h) cr j := snt_o hN (Or.inl (by omega))
    have e2 : g j = (up (up r (432 + h).toNat (imin (r (432 + h).toNat + r 861) 9999)) (756 + 16 * i + h).toNat (r (416 + h).toNat)) j := by rw [hg]; exact snt_o hN (Or.inl (by omega))
    rw [e]
    unfold tailF sumsF
    rw [g1, g2, g3, g4, g5, g6, k3, k4]
    unfold warmF
    rw [k1, k2]
    unfold noteF
    by_cases c1 : j = 870
    · rw [c1, up_eq, up_eq]
    rw [up_ne c1, up_ne c1]
    by_cases c2 : j = 869
    · rw [c2, up_eq, up_eq]
    rw [up_ne c2, up_ne c2]
    by_cases c3 : j = ((726 + 5 * i) + 4).toNat
    · rw [up_ne (show j ≠ (432 + h).toNat by omega), up_ne (show j ≠ (756 + 16 * i + h).toNat by omega), c3, up_eq, up_eq]
    rw [up_ne c3]
    by_cases c4 : j = ((726 + 5 * i) + 3).toNat
    · rw [up_ne (show j ≠ (432 + h).toNat by omega), up_ne (show j ≠ (756 + 16 * i + h).toNat by omega), up_ne c3, c4, up_eq, up_eq]
    rw [up_ne c4]
    by_cases c5 : j = ((726 + 5 * i) + 2).toNat
    · rw [up_ne (show j ≠ (432 + h).toNat by omega), up_ne (show j ≠ (756 + 16 * i + h).toNat by omega), up_ne c3, up_ne c4, c5, up_eq, up_eq]
    rw [up_ne c5]
    by_cases c6 : j = ((726 + 5 * i) + 1).toNat
    · rw [up_ne (show j ≠ (432 + h).toNat by omega), up_ne (show j ≠ (756 + 16 * i + h).toNat by omega), up_ne c3, up_ne c4, up_ne c5, c6, up_eq, up_eq]
    rw [up_ne c6, e2]
    by_cases c7 : j = (432 + h).toNat
    · rw [up_ne (show j ≠ (756 + 16 * i + h).toNat by omega), c7, up_eq, up_eq]
    rw [up_ne c7]
    by_cases c8 : j = (756 + 16 * i + h).toNat
    · rw [c8, up_eq, up_eq]
    rw [up_ne c8, up_ne c8, up_ne c7, up_ne c3, up_ne c4, up_ne c5, up_ne c6]
/-- what else of the memory a served request changes -/
def Ks (M M' : Mem) : Prop := ∀ x, x = 0 ∨ (29 ≤ x ∧ x < 206) ∨ 210 ≤ x → M' x = M x
def Kr (Q Q' : Mem) : Prop := (∀ x, x ≠ 215 → x ≠ 216 → x ≠ 218 → Q' x = Q x) ∧ ∀ j, j < 6 ∨ 12 ≤ j → Q' 215 j = Q 215 j

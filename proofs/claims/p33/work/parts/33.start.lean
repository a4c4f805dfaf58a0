/-! the memory behind the constructor; the claim out of the functions alone -/
def zM0 : Mem := g_X9_init 0 (ml (fun _ _ => 0) 0 fun _ => 0)
def PureLaw : Prop := ∀ (xs : Nat → Int) (L : Nat), L ≤ 260 → (∀ j, inR (xs j)) → ∃ M', f_L_law xs L zM0 = some (1, M')
set_option maxRecDepth 100000 in
theorem zset_o : ∀ k, k < 215 → (lay k).1 = 0 → ∀ j, j < 15 → off (lay k).2 j ≠ 0 → zM0 k j ≠ 0 := by decide +kernel
theorem zset_a : ∀ j, j < 4 → zM0 89 j ≠ 0 := by decide +kernel
theorem zlay_4 : ∀ k, k < 215 → (lay k).1 = 4 → k = 89 ∧ (lay k).2 = 4 := by decide +kernel
theorem znfl : ∀ ci, ci < 11 → nfl ci ≤ 15 := by decide +kernel
theorem zlay_c : ∀ k, k < 215 → (lay k).1 = 0 → (lay k).2 < 11 := by decide +kernel
theorem zlay_5 : ∀ k, k < 215 → (lay k).1 = 0 ∨ (lay k).1 = 1 ∨ (lay k).1 = 2 ∨ (lay k).1 = 3 ∨ (lay k).1 = 4 := by decide +kernel
theorem zsame (cas : Nat → ClassId) (h0 k : Nat) (hk : k < 215) : zCd cas h0 k (zM0 k) = zC cas (fun j => h0 + j) k (zM0 k) := by
  have hc : lay k = ((lay k).1, (lay k).2) := rfl
  rcases zlay_5 k hk with h | h | h | h | h <;> rw [h] at hc
  · rw [zCd_0 hc, zC_0 hc]
    congr 2
    apply List.map_congr_left
    intro j hj
    have hj2 : j < nfl (lay k).2 := List.mem_range.mp hj
    have hn := znfl _ (zlay_c k hk h)
    by_cases e : off (lay k).2 j = 0
    · rw [if_pos e, if_pos e]
    · rw [if_neg e, if_neg e, if_neg (zset_o k hk h j (by omega) e)]
  · rw [zCd_1 hc, zC_1 hc]
  · rw [zCd_2 hc, zC_2 hc]
  · rw [zCd_3 hc, zC_3 hc]
  · obtain ⟨rfl, h4⟩ := zlay_4 k hk h
    rw [zCd_4 hc, zC_4 hc]
    have hf : (fun j => if j < 4 ∧ zM0 89 j = 0 then none else some (h0 + (89 + 1 + 29 * j))) = fun j => some (h0 + (89 + 1 + 29 * j)) := funext fun j => by
      by_cases e : j < 4
      · rw [if_neg (fun q => zset_a j e q.2)]
      · rw [if_neg (fun q => e q.1)]
    rw [hf]
theorem zW0 (cas : Nat → ClassId) (h0 : Nat) : zL cas h0 215 zM0 = zW cas (fun j => h0 + j) zM0 := by
  unfold zL zW zG
  apply List.map_congr_left
  intro k hk
  rw [zsame cas h0 k (List.mem_range.mp hk)]
theorem zlay_9 : ∀ j, j < 215 → lay (0 + j) = lx_9.getD j (9, 0) := by decide +kernel

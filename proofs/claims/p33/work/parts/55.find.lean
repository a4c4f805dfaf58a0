theorem FR_a {M Q : Mem} {A S k : Nat} (h : FR M Q A S k) (h0 : M 206 0 ≤ 190) (h4 : M 206 4 = 0) : FR (wr (wr M 206 0 (M 206 0 + 1)) 206 1 (M 206 1 + 1)) (wr (wr (wr Q 215 8 (Q 215 8 + 1)) 215 11 0) 215 7 (Q 215 7 + 1)) A S k := by
  obtain ⟨h1, ⟨h2, h2'⟩, ⟨h3, h3'⟩, ⟨h4, h4'⟩, ⟨h5, h5', h5''⟩, h6, h7, ⟨h8, h8', h8''⟩, h9⟩ := h
  refine ⟨h1, ⟨?_, ?_⟩, ⟨fun p hp => ?_, fun p hp => ?_⟩, ⟨?_, ?_⟩, ⟨?_, ?_, ?_⟩, ?_, ?_, ⟨?_, ?_, h8''⟩, fun i hi => ?_⟩
  · simp [wr, up, h2]
  · simp [wr, up, h2']
  · simp [wr]; exact h3 p hp
  · simp [wr]; exact h3' p hp
  · simp [wr, up, h4]
  · simp [wr, up, h4']
  · simp [wr, up, h5]
  · simp [wr, up, h5']
  · simp [wr, up, *]
  · simp [wr, up, *]
  · simp [wr, up]; omega
  · simp [wr, up, h8]
  · simp [wr, up, h8']
  · simp [wr]; exact h9 i hi
theorem FR_f {M Q : Mem} {A S k : Nat} (h : FR M Q A S k) (h0 : M 206 0 ≤ 190) (h4 : M 206 4 = 0) {p : Nat} (hp : p < 8) (ht : tb A p = 0) : FR (wr (wr (wr M 206 0 (M 206 0 + 1)) 206 2 (M 206 2 + 1)) 208 p 1) (wr (wr (wr Q 215 9 ((A ||| 2 ^ p : Nat) : Int)) 215 11 0) 215 7 (Q 215 7 + 1)) (A ||| 2 ^ p) S k := by
  obtain ⟨h1, ⟨h2, h2'⟩, ⟨h3, h3'⟩, ⟨g4, g4'⟩, ⟨h5, h5', h5''⟩, h6, h7, ⟨h8, h8', h8''⟩, h9⟩ := h
  have hb := bit_set A h1.1 p hp
  refine ⟨⟨hb.2.1, h1.2⟩, ⟨?_, ?_⟩, ⟨fun x hx => ?_, fun p hp => ?_⟩, ⟨?_, ?_⟩, ⟨?_, ?_, ?_⟩, ?_, ?_, ⟨?_, ?_, h8''⟩, fun i hi => ?_⟩
  · simp [wr, up]
  · simp [wr, up, h2']
  · rw [bit_put A h1.1 p hp x hx, wr_eq]
    by_cases e : x = p
    · rw [e, up_eq, if_pos rfl]
    · rw [up_ne e, if_neg e, wr_ne (by decide), wr_ne (by decide)]; exact h3 x hx
  · simp [wr]; exact h3' p hp
  · rw [hb.2.2 ht]; simp [wr, up, g4]
  · simp [wr, up, g4']
  · simp [wr, up, h5]
  · simp [wr, up, h5']
  · simp [wr, up, h4]
  · simp [wr, up, h4]
  · simp [wr, up]; omega
  · simp [wr, up, h8]
  · simp [wr, up, h8']
  · simp [wr]; exact h9 i hi
theorem FR_n {M Q : Mem} {A S k : Nat} (h : FR M Q A S k) (h0 : M 206 0 ≤ 190) (h4 : M 206 4 = 0) {p : Nat} (hp : p < 8) (ht : tb S p = 0) : FR (wr (wr (wr M 206 0 (M 206 0 + 1)) 206 3 (M 206 3 + 1)) 209 p 1) (wr (wr (wr Q 215 10 ((S ||| 2 ^ p : Nat) : Int)) 215 11 0) 215 7 (Q 215 7 + 1)) A (S ||| 2 ^ p) k := by
  obtain ⟨h1, ⟨h2, h2'⟩, ⟨h3, h3'⟩, ⟨g4, g4'⟩, ⟨h5, h5', h5''⟩, h6, h7, ⟨h8, h8', h8''⟩, h9⟩ := h
  have hb := bit_set S h1.2 p hp
  refine ⟨⟨h1.1, hb.2.1⟩, ⟨?_, ?_⟩, ⟨fun p hp => ?_, fun x hx => ?_⟩, ⟨?_, ?_⟩, ⟨?_, ?_, ?_⟩, ?_, ?_, ⟨?_, ?_, h8''⟩, fun i hi => ?_⟩
  · simp [wr, up, h2]
  · simp [wr, up]
  · simp [wr]; exact h3 p hp
  · rw [bit_put S h1.2 p hp x hx, wr_eq]
    by_cases e : x = p
    · rw [e, up_eq, if_pos rfl]
    · rw [up_ne e, if_neg e, wr_ne (by decide), wr_ne (by decide)]; exact h3' x hx
  · simp [wr, up, g4]
  · rw [hb.2.2 ht]; simp [wr, up, g4']
  · simp [wr, up, h5]
  · simp [wr, up, h5']
  · simp [wr, up, h4]
  · simp [wr, up, h4]
  · simp [wr, up]; omega
  · simp [wr, up, h8]
  · simp [wr, up, h8']
  · simp [wr]; exact h9 i hi
theorem FR_c {M Q : Mem} {A S k : Nat} (h : FR M Q A S k) {N : Nat} (hN : N ≤ 8) (h0 : M 206 0 ≤ 190) : FR (wr (wr M 206 0 (M 206 0 + N)) 206 4 1) (wr (wr (wr Q 215 10 (S : Nat)) 215 11 1) 215 7 (Q 215 7 + N)) A S k := by
  obtain ⟨h1, ⟨h2, h2'⟩, ⟨h3, h3'⟩, ⟨g4, g4'⟩, ⟨h5, h5', h5''⟩, h6, h7, ⟨h8, h8', h8''⟩, h9⟩ := h
  refine ⟨h1, ⟨?_, ?_⟩, ⟨fun p hp => ?_, fun x hx => ?_⟩, ⟨?_, ?_⟩, ⟨?_, ?_, ?_⟩, ?_, ?_, ⟨?_, ?_, h8''⟩, fun i hi => ?_⟩
  · simp [wr, up, h2]
  · simp [wr, up]
  · simp [wr]; exact h3 p hp
  · simp [wr]; exact h3' x hx
  · simp [wr, up, g4]
  · simp [wr, up, g4']
  · simp [wr, up, h5]
  · simp [wr, up, h5']
  · simp [wr, up]
  · simp [wr, up]
  · simp [wr, up]; omega
  · simp [wr, up, h8]
  · simp [wr, up, h8']
  · simp [wr]; exact h9 i hi
theorem ninF_c {r r2 : Row} (hE : ∀ j, j < 464 ∨ 720 ≤ j → r2 j = r j) {p : Int} (hp : 0 ≤ p ∧ p < 8) (Z : Nat) : ∀ n : Nat, n ≤ 8 → ninF r2 p Z n = ninF r p Z n := by
  have hd : ∀ x : Int, 0 ≤ x ∧ x < 8 → dlF r2 x p = dlF r x p := fun x hx => by unfold dlF; rw [hE _ (by omega), hE _ (by omega)]
  intro n
  induction n with
  | zero => intro _; rfl
  | succ n ih =>
    intro hn
    have hb := ninF_b r p Z n
    rw [ninF_s, ninF_s, ih (by omega), hE _ (show ((0 + 4 * (n : Int)) + 2).toNat < 464 ∨ _ by omega), hd n (by omega)]
    by_cases c : ninF r p Z n = -5
    · rw [c]
      simp
    · rw [hd _ (by omega)]

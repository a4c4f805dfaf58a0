/-! what holds behind every call: the state has a row, the states of the history and the snapshot too -/
def SW (B : Int) (M : Mem) (b : Nat) (r : Row) : Prop := ST M b r ∧ WF B r ∧ r 862 ≤ 9999 ∧ WX r
theorem SW_to {B B' : Int} {M M' : Mem} {b : Nat} {r : Row} (h : SW B M b r) (hB : B ≤ B') (hM : ∀ x, b ≤ x → x < b + 28 → M' x = M x) : SW B' M' b r :=
  ⟨⟨ST0_to h.1.1 (fun o ho _ => hM _ (by omega) (by omega)) (fun _ _ => rfl), fun p p0 p1 => by rw [hM _ (by omega) (by omega)]; exact h.1.2 p p0 p1⟩, WF_B h.2.1 hB, h.2.2⟩
def HI (B : Int) (M : Mem) (h o : Nat) : Prop := M 88 0 = h ∧ M 88 1 = o ∧ h ≤ 4 ∧ o < 4 ∧ ∀ k, k < h → ∃ rk, SW B M (90 + 29 * ((o + k) % 4)) rk
def SI (B : Int) (M : Mem) : Prop := M 0 6 = 0 ∨ (M 0 6 = 1 ∧ ∃ rs, SW B M 59 rs)
def Inv (B : Int) (M : Mem) (r : Row) : Prop := 0 ≤ B ∧ SW B M 1 r ∧ (∃ h o, HI B M h o) ∧ SI B M
/-- the latest state of the history -/
def Top (B : Int) (M : Mem) (r : Row) : Prop := ∃ h o : Nat, M 88 0 = (h : Int) + 1 ∧ M 88 1 = o ∧ h < 4 ∧ o < 4 ∧ SW B M (90 + 29 * ((o + h) % 4)) r
def Snap (B : Int) (M : Mem) (r : Row) : Prop := M 0 6 = 1 ∧ SW B M 59 r
theorem Inv_op {B B' : Int} {M M' : Mem} {r r' : Row} (I : Inv B M r) (hB : B ≤ B') (hS : SW B' M' 1 r') (hM : ∀ x, x = 0 ∨ (59 ≤ x ∧ x < 206) → M' x = M x) : Inv B' M' r' := by
  obtain ⟨h0, -, ⟨h, o, a1, a2, a3, a4, a5⟩, b⟩ := I
  refine ⟨by omega, hS, ⟨h, o, by rw [hM 88 (by omega)]; exact a1, by rw [hM 88 (by omega)]; exact a2, a3, a4, fun k hk => ?_⟩, ?_⟩
  · obtain ⟨rk, s⟩ := a5 k hk
    exact ⟨rk, SW_to s hB (fun x h1 h2 => hM x (by omega))⟩
  · rcases b with b | ⟨b, rs, s⟩
    · exact Or.inl (by rw [hM 0 (by omega)]; exact b)
    · exact Or.inr ⟨by rw [hM 0 (by omega)]; exact b, rs, SW_to s hB (fun x h1 h2 => hM x (by omega))⟩
theorem Inv_to {B B' : Int} {M M' : Mem} {r : Row} (I : Inv B M r) (hB : B ≤ B') (hM : ∀ x, (x < 30 ∨ (59 ≤ x ∧ x < 206)) → M' x = M x) : Inv B' M' r :=
  Inv_op I hB (SW_to I.2.1 hB (fun x h1 h2 => hM x (by omega))) (fun x hx => hM x (by omega))
theorem Top_to {B B' : Int} {M M' : Mem} {r : Row} (T : Top B M r) (hB : B ≤ B') (hM : ∀ x, 88 ≤ x → x < 206 → M' x = M x) : Top B' M' r := by
  obtain ⟨h, o, a1, a2, a3, a4, s⟩ := T
  exact ⟨h, o, by rw [hM 88 (by omega) (by omega)]; exact a1, by rw [hM 88 (by omega) (by omega)]; exact a2, a3, a4, SW_to s hB (fun x h1 h2 => hM x (by omega) (by omega))⟩
theorem Snap_to {B B' : Int} {M M' : Mem} {r : Row} (T : Snap B M r) (hB : B ≤ B') (hM : ∀ x, x = 0 ∨ (59 ≤ x ∧ x < 88) → M' x = M x) : Snap B' M' r :=
  ⟨by rw [hM 0 (by omega)]; exact T.1, SW_to T.2 hB (fun x h1 h2 => hM x (by omega))⟩
theorem q_store {B : Int} {M : Mem} {r : Row} (I : Inv B M r) : ∃ M', f_X1_store 1 M = some (0, M') ∧ Inv B M' r ∧ Top B M' r ∧ ∀ x, x < 88 ∨ 206 ≤ x → M' x = M x := by
  obtain ⟨hB, S1, ⟨h, o, a1, a2, a3, a4, a6⟩, b⟩ := I
  obtain ⟨i0, hi0⟩ : ∃ i0 : Nat, i0 = (o + h) % 4 := ⟨_, rfl⟩
  have hi4 : i0 < 4 := by omega
  obtain ⟨M4, c1, c2, c3⟩ := q_copy (k := 90 + 29 * i0) (k1 := 1) S1.1 S1.2.1.1 (by omega)
  have ht := tmod4 o h
  rw [← hi0] at ht
  have e88 : M4 88 = M 88 := c3 88 (by omega)
  have hstore : f_X1_store 1 M = if (4 : Int) ≤ h then some (0, wr M4 88 1 (((o + 1) % 4 : Nat) : Int)) else some (0, wr M4 88 0 ((h : Int) + 1)) := by
    have ht1 := tmod4 o 1
    unfold f_X1_store f_X1_store_b53
    rw [a1, a2, ht, if_pos (by omega), if_pos (by omega), show ((i0 : Nat) : Int).toNat = i0 from rfl, c1, zbS, e88, a1, a2, if_pos (by omega)]
    by_cases c : (4 : Int) ≤ h
    · rw [if_pos c, if_pos c, if_pos (by omega), zltS, show (o : Int) + 1 = (o : Int) + ((1 : Nat) : Int) from rfl, ht1]
    · rw [if_neg c, if_neg c, zltS]
  have new : ∀ (j : Nat) (v : Int), SW B (wr M4 88 j v) (90 + 29 * i0) r := fun j v => ⟨⟨ST0_to c2.1 (fun q hq _ => by rw [wr_ne (by omega)]) (fun _ _ => rfl), fun p p0 p1 => by rw [wr_ne (by omega)]; exact c2.2 p p0 p1⟩, S1.2⟩
  have kc : ∀ (j : Nat) (v : Int) (x : Nat), x ≠ 88 → (x < 90 + 29 * i0 ∨ 90 + 29 * i0 + 28 ≤ x) → wr M4 88 j v x = M x := fun j v x h1 h2 => by rw [wr_ne h1, c3 x h2]
  have kx : ∀ (j : Nat) (v : Int) (x : Nat), x < 88 ∨ 206 ≤ x → wr M4 88 j v x = M x := fun j v x hx => kc j v x (by omega) (by omega)
  have sn : ∀ (j : Nat) (v : Int), SI B (wr M4 88 j v) := fun j v => by
    rcases b with b | ⟨b, rs, s⟩
    · exact Or.inl (by rw [kx j v 0 (by omega)]; exact b)
    · exact Or.inr ⟨by rw [kx j v 0 (by omega)]; exact b, rs, SW_to s (Int.le_refl _) (fun x h1 h2 => kx j v x (by omega))⟩
  have s1 : ∀ (j : Nat) (v : Int), SW B (wr M4 88 j v) 1 r := fun j v => SW_to S1 (Int.le_refl _) (fun x h1 h2 => kx j v x (by omega))
  by_cases c : (4 : Int) ≤ h
  · rw [if_pos c] at hstore
    have h4 : h = 4 := by omega
    subst h4
    refine ⟨_, hstore, ⟨hB, s1 _ _, ⟨4, (o + 1) % 4, ?_, ?_, by omega, by omega, fun k hk => ?_⟩, sn _ _⟩, ⟨3, (o + 1) % 4, ?_, ?_, by omega, by omega, ?_⟩, kx _ _⟩
    · rw [wr_eq, up_ne (by decide), e88]; exact a1
    · rw [wr_eq, up_eq]
    · by_cases hk3 : k = 3
      · subst hk3
        rw [show ((o + 1) % 4 + 3) % 4 = i0 by omega]
        exact ⟨r, new _ _⟩
      · obtain ⟨rk, old⟩ := a6 (k + 1) (by omega)
        rw [show ((o + 1) % 4 + k) % 4 = (o + (k + 1)) % 4 by omega]
        exact ⟨rk, SW_to old (Int.le_refl _) (fun x h1 h2 => kc _ _ x (by omega) (by omega))⟩
    · rw [wr_eq, up_ne (by decide), e88]; exact a1
    · rw [wr_eq, up_eq]
    · rw [show ((o + 1) % 4 + 3) % 4 = i0 by omega]
      exact new _ _
  · rw [if_neg c] at hstore
    refine ⟨_, hstore, ⟨hB, s1 _ _, ⟨h + 1, o, ?_, ?_, by omega, a4, fun k hk => ?_⟩, sn _ _⟩, ⟨h, o, ?_, ?_, by omega, a4, ?_⟩, kx _ _⟩
    · rw [wr_eq, up_eq]; rfl
    · rw [wr_eq, up_ne (by decide), e88]; exact a2
    · by_cases hk3 : k = h
      · subst hk3
        rw [← hi0]
        exact ⟨r, new _ _⟩
      · obtain ⟨rk, old⟩ := a6 k (by omega)
        exact ⟨rk, SW_to old (Int.le_refl _) (fun x h1 h2 => kc _ _ x (by omega) (by omega))⟩
    · rw [wr_eq, up_eq]
    · rw [wr_eq, up_ne (by decide), e88]; exact a2
    · rw [← hi0]
      exact new _ _
theorem q_undo {B : Int} {M : Mem} {r r0 : Row} (I : Inv B M r) (T : Top B M r0) : ∃ x M', f_X9_undo M = some (x, M') ∧ (0 ≤ x ∧ x ≤ 3) ∧ Inv B M' r0 ∧ ∀ y, y = 0 ∨ (59 ≤ y ∧ y < 88) → M' y = M y := by
  obtain ⟨hB, S1, ⟨h, o, a1, a2, a3, a4, a6⟩, b⟩ := I
  obtain ⟨g, o', t1, t2, t3, t4, old⟩ := T
  obtain rfl : o' = o := by omega
  obtain rfl : h = g + 1 := by omega
  have hi4 : (o' + g) % 4 < 4 := by omega
  have kw : ∀ x, x ≠ 88 → wr M 88 0 (g : Int) x = M x := fun x hx => wr_ne hx
  have old2 : SW B (wr M 88 0 (g : Int)) (90 + 29 * ((o' + g) % 4)) r0 := SW_to old (Int.le_refl _) (fun x h1 h2 => kw x (by omega))
  obtain ⟨M', i1, i2, i3⟩ := q_copy (k := 1) (k1 := 90 + 29 * ((o' + g) % 4)) old2.1 old2.2.1.1 (by omega)
  have ht := tmod4 o' g
  have e88 : wr M 88 0 (g : Int) 88 0 = (g : Int) := by rw [wr_eq, up_eq]
  have e881 : wr M 88 0 (g : Int) 88 1 = (o' : Int) := by rw [wr_eq, up_ne (by decide)]; exact a2
  have km : ∀ x, x ≠ 88 → 29 ≤ x → M' x = M x := fun x h1 h2 => by rw [i3 x (by omega), kw x h1]
  have k0 : M' 0 = M 0 := by rw [i3 0 (by omega), kw 0 (by decide)]
  refine ⟨(g : Int), M', ?_, ⟨by omega, by omega⟩, ⟨hB, ⟨i2, old.2⟩, ⟨g, o', by rw [i3 88 (by omega)]; exact e88, by rw [i3 88 (by omega)]; exact e881, by omega, a4, fun k hk => ?_⟩, ?_⟩, fun y hy => ?_⟩
  · unfold f_X9_undo f_X1_takeBack f_X1_takeBack_b37
    rw [a1, if_pos (by omega), if_pos (by omega), if_pos (by omega), if_neg (by omega), zltS, show ((g + 1 : Nat) : Int) - 1 = (g : Int) by omega, e88, e881, ht, if_pos (by omega), if_pos (by omega), show (((o' + g) % 4 : Nat) : Int).toNat = (o' + g) % 4 from rfl, i1, zbS, zbS, i3 88 (by omega), e88]
  · obtain ⟨rk, s⟩ := a6 k (by omega)
    exact ⟨rk, SW_to s (Int.le_refl _) (fun x h1 h2 => km x (by omega) (by omega))⟩
  · rcases b with b | ⟨b, rs, s⟩
    · exact Or.inl (by rw [k0]; exact b)
    · exact Or.inr ⟨by rw [k0]; exact b, rs, SW_to s (Int.le_refl _) (fun x h1 h2 => km x (by omega) (by omega))⟩
  · rcases hy with hy | hy
    · rw [hy, k0]
    · exact km y (by omega) (by omega)
theorem q_keep {B : Int} {M : Mem} {r : Row} (I : Inv B M r) : ∃ M', f_X9_keep M = some (r 862, M') ∧ Inv B M' r ∧ Snap B M' r := by
  obtain ⟨hB, S1, ⟨h, o, a1, a2, a3, a4, a6⟩, b⟩ := I
  obtain ⟨M', i1, i2, i3⟩ := q_copy (k := 59) (k1 := 1) S1.1 S1.2.1.1 (by decide)
  have kM : ∀ x, x ≠ 0 → (x < 59 ∨ 87 ≤ x) → wr M' 0 6 1 x = M x := fun x h0 h1 => by rw [wr_ne h0, i3 x (by omega)]
  have hday : M 1 0 = r 862 := S1.1.1.day
  have s59 : SW B (wr M' 0 6 1) 59 r := SW_to (⟨i2, S1.2⟩ : SW B M' 59 r) (Int.le_refl _) (fun x h1 h2 => wr_ne (by omega))
  have e6 : wr M' 0 6 1 0 6 = 1 := by rw [wr_eq, up_eq]
  refine ⟨wr M' 0 6 1, ?_, ⟨hB, SW_to S1 (Int.le_refl _) (fun x h1 h2 => kM x (by omega) (by omega)), ⟨h, o, by rw [kM 88 (by decide) (by omega)]; exact a1, by rw [kM 88 (by decide) (by omega)]; exact a2, a3, a4, fun k hk => ?_⟩, Or.inr ⟨e6, r, s59⟩⟩, e6, s59⟩
  · unfold f_X9_keep
    rw [i1, zbS, zltS, kM 1 (by decide) (by omega), hday]
  · obtain ⟨rk, s⟩ := a6 k hk
    exact ⟨rk, SW_to s (Int.le_refl _) (fun x h1 h2 => kM x (by omega) (by omega))⟩
theorem q_restore {B : Int} {M : Mem} {r rs : Row} (I : Inv B M r) (S : Snap B M rs) : ∃ M', f_X9_restore M = some (rs 862, M') ∧ Inv B M' rs ∧ Snap B M' rs ∧ Top B M' r := by
  obtain ⟨M1, s1, I1, T1, kc⟩ := q_store I
  have S1 : Snap B M1 rs := Snap_to S (Int.le_refl _) (fun x hx => kc x (by omega))
  obtain ⟨M', i1, i2, i3⟩ := q_copy (k := 1) (k1 := 59) S1.2.1 S1.2.2.1.1 (by decide)
  have w1 : SW B M' 1 rs := ⟨i2, S1.2.2⟩
  have hday : M' 1 0 = rs 862 := i2.1.day
  refine ⟨M', ?_, Inv_op I1 (Int.le_refl _) w1 (fun x hx => i3 x (by omega)), Snap_to S1 (Int.le_refl _) (fun x hx => i3 x (by omega)), Top_to T1 (Int.le_refl _) (fun x h1 h2 => i3 x (by omega))⟩
  unfold f_X9_restore
  rw [S.1, if_pos (by decide), if_neg (by decide), s1, zbS, i1, zbS, hday]
/-- an act: an error changes nothing; else the state ahead of it is the latest of the history -/
def Act (c : Int) (f : Mem → Option (Int × Mem)) : Prop := ∀ (B : Int) (M : Mem) (r : Row), Inv B M r → B ≤ 2147480000 → ∃ x M' r', f M = some (x, M') ∧ inR x ∧ Inv (B + 1000) M' r' ∧ (x < 0 → r' = r) ∧ (0 ≤ x → Top (B + 1000) M' r) ∧ r 865 ≤ r' 865 ∧ r' 862 ≤ r 862 + c ∧ ∀ y, y = 0 ∨ (59 ≤ y ∧ y < 88) → M' y = M y
theorem act_no {c : Int} {f : Mem → Option (Int × Mem)} {B : Int} {M : Mem} {r : Row} (I : Inv B M r) (hc : 0 ≤ c) {x : Int} (hx : -1000 ≤ x ∧ x < 0) (hf : f M = some (x, M)) : ∃ x M' r', f M = some (x, M') ∧ inR x ∧ Inv (B + 1000) M' r' ∧ (x < 0 → r' = r) ∧ (0 ≤ x → Top (B + 1000) M' r) ∧ r 865 ≤ r' 865 ∧ r' 862 ≤ r 862 + c ∧ ∀ y, y = 0 ∨ (59 ≤ y ∧ y < 88) → M' y = M y :=
  ⟨x, M, r, hf, ⟨by omega, by omega⟩, Inv_to I (by omega) (fun _ _ => rfl), fun _ => rfl, fun h => by omega, Int.le_refl _, by omega, fun _ _ => rfl⟩
theorem act_do {c : Int} {f : Mem → Option (Int × Mem)} {B : Int} {M M1 M' : Mem} {r r' : Row} {x : Int} (I1 : Inv B M1 r) (T1 : Top B M1 r) (kc : ∀ x, x < 88 ∨ 206 ≤ x → M1 x = M x) (hf : f M = some (x, M')) (hx : 0 ≤ x ∧ x ≤ 2147483647) (hS : ST M' 1 r') (hW : WF (B + 1000) r') (hX : WX r') (hd : r' 862 ≤ 9999) (hk : ∀ y, y = 0 ∨ (59 ≤ y ∧ y < 206) → M' y = M1 y) (h5 : r 865 ≤ r' 865) (h2 : r' 862 ≤ r 862 + c) : ∃ x M' r', f M = some (x, M') ∧ inR x ∧ Inv (B + 1000) M' r' ∧ (x < 0 → r' = r) ∧ (0 ≤ x → Top (B + 1000) M' r) ∧ r 865 ≤ r' 865 ∧ r' 862 ≤ r 862 + c ∧ ∀ y, y = 0 ∨ (59 ≤ y ∧ y < 88) → M' y = M y :=
  ⟨x, M', r', hf, ⟨by omega, by omega⟩, Inv_op I1 (by omega) ⟨hS, hW, hd, hX⟩ hk, fun h => by omega, fun _ => Top_to T1 (by omega) (fun y h1 h2 => hk y (by omega)), h5, h2, fun y hy => by rw [hk y (by omega), kc y (by omega)]⟩

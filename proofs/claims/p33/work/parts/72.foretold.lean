/-! the law's isForetold: a shard moves on the day that is told -/
theorem ft_173 {B : Int} {M : Mem} {r r2 : Row} {a t : Int} (ha : ∀ M, ST M 1 r → f_L_all M = some (a, M)) (I : Inv B M r2) (T : Top B M r) : ∃ M', f_L_isForetold_b173 a t t M = some (1, M') ∧ Inv B M' r := by
  obtain ⟨x, M', u1, u2, u3, -⟩ := q_undo I T
  refine ⟨M', ?_, u3⟩
  unfold f_L_isForetold_b173 f_L_isForetold_b199
  rw [if_pos (Or.inl rfl), if_pos rfl, u1, zbS, if_pos (by omega), if_neg (by omega), ha M' u3.2.1.1, zbS, zcmp_rf, if_pos (by decide), if_pos rfl, if_pos (Or.inr rfl)]
theorem ft_114 {B : Int} {M : Mem} {r : Row} {a h x n : Int} {N Nw : Nat} (ha : ∀ M, ST M 1 r → f_L_all M = some (a, M)) (I : Inv B M r) (hN : r 863 = N) (hW : r 864 = Nw) (hh : 0 ≤ h ∧ h < 16) (hn : 1 ≤ n ∧ n ≤ 60) (hd : r 862 + 60 ≤ 9999) (hx : inR x) (F2 : ∀ r', Days N Nw n.toNat r r' → if 0 ≤ x then r' (448 + h).toNat = r (448 + h).toNat + 1 ∧ r' (416 + h).toNat ≠ r (416 + h).toNat else r' (448 + h).toNat = r (448 + h).toNat ∧ r' (416 + h).toNat = r (416 + h).toNat) : ∃ M', f_L_isForetold_b114 a h x (r (448 + h).toNat) (r (416 + h).toNat) n M = some (1, M') ∧ Inv (B + 1000) M' r := by
  obtain ⟨y, M2, r2, p1, p2, I2, T2, D2, -, -, -⟩ := q_pass I hN hW hn (by omega)
  have W2 := I2.2.1.2.1
  have S2 := I2.2.1.1
  have hat := WF1_at I.2.1.2.1.1 hh.1 hh.2
  have hat2 := WF1_at W2.1 hh.1 hh.2
  have hnn := WF1_n I.2.1.2.1.1
  have hnn2 := WF1_n W2.1
  have f2 := F2 r2 D2
  unfold f_L_isForetold_b114
  rw [p1, zbS, if_pos (by omega), if_neg (by omega), t_shard S2 W2 hh (by decide), zbS, show shV r2 h 2 = r2 (448 + h).toNat from rfl, if_pos hx]
  unfold f_L_isForetold_b142 f_L_isForetold_b163
  by_cases c : 0 ≤ x
  · rw [if_pos c] at f2
    obtain ⟨M', g1, g2⟩ := ft_173 (t := 0) ha I2 T2
    refine ⟨M', ?_, g2⟩
    rw [if_pos c, f2.1, if_pos (Or.inl rfl), if_pos rfl, t_shard S2 W2 hh (by decide), zbS, show shV r2 h 0 = r2 (416 + h).toNat from rfl, if_pos (Or.inr ⟨by omega, by omega⟩), if_neg f2.2, if_pos hx, if_pos c]
    exact g1
  · rw [if_neg c] at f2
    obtain ⟨M', g1, g2⟩ := ft_173 (t := 1) ha I2 T2
    refine ⟨M', ?_, g2⟩
    rw [if_neg c, f2.1, Int.add_zero, if_pos (Or.inl rfl), if_pos rfl, t_shard S2 W2 hh (by decide), zbS, show shV r2 h 0 = r2 (416 + h).toNat from rfl, f2.2, if_pos (Or.inl rfl), if_pos rfl, if_pos hx, if_neg c]
    exact g1
theorem ft_62 {B : Int} {M : Mem} {r : Row} {a h x n : Int} {N Nw : Nat} (ha : ∀ M, ST M 1 r → f_L_all M = some (a, M)) (I : Inv B M r) (hN : r 863 = N) (hW : r 864 = Nw) (hh : 0 ≤ h ∧ h < 16) (hn : 1 ≤ n ∧ n ≤ 60) (hd : r 862 + 60 ≤ 9999) (hx : inR x) (F1 : ∀ r', Days N Nw (n - 1).toNat r r' → r' (448 + h).toNat = r (448 + h).toNat ∧ r' (416 + h).toNat = r (416 + h).toNat) (F2 : ∀ r', Days N Nw n.toNat r r' → if 0 ≤ x then r' (448 + h).toNat = r (448 + h).toNat + 1 ∧ r' (416 + h).toNat ≠ r (416 + h).toNat else r' (448 + h).toNat = r (448 + h).toNat ∧ r' (416 + h).toNat = r (416 + h).toNat) : ∃ M', f_L_isForetold_b62 a h x (r (448 + h).toNat) (r (416 + h).toNat) n M = some (1, M') ∧ Inv (B + 2000) M' r := by
  unfold f_L_isForetold_b62
  rw [if_pos (by omega)]
  by_cases c : n ≤ 1
  · rw [if_pos c]
    obtain ⟨M', g1, g2⟩ := ft_114 ha I hN hW hh hn hd hx F2
    exact ⟨M', g1, Inv_to g2 (by omega) (fun _ _ => rfl)⟩
  · rw [if_neg c]
    obtain ⟨y, M2, r2, p1, p2, I2, T2, D2, -, -, -⟩ := q_pass I hN hW (v1 := n - 1) (by omega) (by omega)
    have f1 := F1 r2 D2
    obtain ⟨z, M3, u1, u2, I3, -⟩ := q_undo I2 T2
    obtain ⟨M', g1, g2⟩ := ft_114 ha I3 hN hW hh hn hd hx F2
    refine ⟨M', ?_, Inv_to g2 (by omega) (fun _ _ => rfl)⟩
    rw [p1, zbS, if_pos (by omega), if_neg (by omega), t_shard I2.2.1.1 I2.2.1.2.1 hh (by decide), zbS, show shV r2 h 2 = r2 (448 + h).toNat from rfl, f1.1, if_pos (Or.inl rfl), if_pos rfl, t_shard I2.2.1.1 I2.2.1.2.1 hh (by decide), zbS, show shV r2 h 0 = r2 (416 + h).toNat from rfl, f1.2, if_pos (Or.inl rfl), if_pos rfl, u1, zbS, if_pos (by omega), if_pos (by omega)]
    exact g1
theorem q_isForetold {B : Int} {M : Mem} {r : Row} (I : Inv B M r) (hB : B ≤ 2147470000) (hd : r 862 + 60 ≤ 9999) (v1 : Int) : ∃ M', f_L_isForetold v1 M = some (1, M') ∧ Inv (B + 2000) M' r := by
  have W := I.2.1.2.1
  have hn := WF1_n W.1
  have hw := WF1_nw W.1
  have hN : r 863 = ((r 863).toNat : Nat) := by omega
  have hW : r 864 = ((r 864).toNat : Nat) := by omega
  obtain ⟨a, ha⟩ := q_all W
  obtain ⟨h, l1, hh⟩ := q_low (v := v1) (n := 16) (by decide) M
  obtain ⟨x, M1, m1, mk, hf⟩ := q_movesIn I (by omega) hN hW hh
  have I1 : Inv B M1 r := Inv_to I (Int.le_refl _) (fun y hy => mk y (by omega))
  have fin : ∀ n : Int, (1 ≤ n ∧ n ≤ 60) → inR x → (∀ r', Days (r 863).toNat (r 864).toNat (n - 1).toNat r r' → r' (448 + h).toNat = r (448 + h).toNat ∧ r' (416 + h).toNat = r (416 + h).toNat) → (∀ r', Days (r 863).toNat (r 864).toNat n.toNat r r' → if 0 ≤ x then r' (448 + h).toNat = r (448 + h).toNat + 1 ∧ r' (416 + h).toNat ≠ r (416 + h).toNat else r' (448 + h).toNat = r (448 + h).toNat ∧ r' (416 + h).toNat = r (416 + h).toNat) → (if 0 ≤ x then x else 20) = n → ∃ M', f_L_isForetold v1 M = some (1, M') ∧ Inv (B + 2000) M' r := by
    intro n h1 hx F1 F2 he
    obtain ⟨M', g1, g2⟩ := ft_62 ha I1 hN hW hh h1 hd hx F1 F2
    refine ⟨M', ?_, g2⟩
    unfold f_L_isForetold
    rw [ha M I.2.1.1, zbS, l1, zbS, m1, zbS, ha M1 I1.2.1.1, zbS, zcmp_rf, if_pos (by decide), if_pos rfl, t_shard I1.2.1.1 W hh (by decide), zbS, show shV r h 2 = r (448 + h).toNat from rfl, t_shard I1.2.1.1 W hh (by decide), zbS, show shV r h 0 = r (416 + h).toNat from rfl, if_pos hx]
    by_cases c : 0 ≤ x
    · rw [if_pos c] at he
      rw [if_pos c, he]
      rw [he] at g1
      exact g1
    · rw [if_neg c] at he
      rw [if_neg c, he]
      exact g1
  rcases hf with ⟨f1, f2⟩ | ⟨f1, f2, f3⟩
  · refine fin 20 (by decide) (by omega) (fun r' hr => f2 _ (by decide) r' hr) (fun r' hr => ?_) (by rw [if_neg (by omega)])
    rw [if_neg (by omega)]
    exact f2 _ (by decide) r' hr
  · refine fin x f1 (by omega) (fun r' hr => f2 _ (by omega) r' hr) (fun r' hr => ?_) (by rw [if_pos (by omega)])
    rw [if_pos (by omega)]
    exact f3 _ (by omega) r' hr

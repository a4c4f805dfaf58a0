/-! the law's isReached: a key is reached hop by hop, and then without any -/
theorem pop_inn {B : Int} {r : Row} (W : WF B r) {N : Nat} (hN : r 863 = N) {A : Nat} (h : InnS r A) : pop A ≤ innF r N := by
  have hn := WF1_n W.1
  have h1 : pop A = sumN 8 (fun p => tb A p) := by
    simp only [sumN, pop]
    omega
  have h2 : innF r N = sumN 8 (fun p => if r ((0 + 4 * (p : Int)) + 2).toNat = 1 then (1 : Int) else 0) := (sumN_tail (by omega) (fun k k1 k2 => by
    have h3 := (W.2.1.2.2.1 (k : Int) 0 (by omega) (by omega) (by omega) (by omega)).1
    rw [h3, if_neg (by decide)])).symm
  rw [h1, h2]
  refine sumN_le (fun k hk => ?_)
  have hb := tb_b A k
  by_cases e : tb A k = 1
  · rw [e, if_pos (h k hk e)]; exact Int.le_refl _
  · split <;> omega
theorem rch_facts {B : Int} {r : Row} (W : WF B r) {i h ho cr : Int} {S N : Nat} (hi : 0 ≤ i ∧ i < 6) (hh : 0 ≤ h ∧ h < 16) (hN : N ≤ 8) : rchF r i h ho cr S N (756 + 16 * i + h).toNat = r (416 + h).toNat ∧ rchF r i h ho cr S N (416 + h).toNat = r (416 + h).toNat ∧ r (432 + h).toNat ≤ rchF r i h ho cr S N (432 + h).toNat ∧ rchF r i h ho cr S N 869 = r 869 + 1 ∧ rchF r i h ho cr S N 870 = r 870 + cr := by
  have hw := WF1_warm W.1
  have hht := WF1_heat W.1 hh.1 hh.2
  refine ⟨?_, rchF_o hi hh hN (by omega), ?_, ?_, ?_⟩
  · unfold rchF
    rw [snt_o hN (by omega)]
    unfold sumsF
    rw [up_ne (by omega), up_ne (by omega)]
    unfold warmF
    rw [up_ne (by omega)]
    unfold noteF
    rw [up_eq]
  · unfold rchF
    rw [snt_o hN (by omega)]
    unfold sumsF
    rw [up_ne (by omega), up_ne (by omega)]
    unfold warmF
    rw [up_eq, noteF_o hi hh (by omega), noteF_o hi hh (by omega)]
    unfold imin
    split <;> omega
  · unfold rchF
    rw [snt_o hN (by omega)]
    unfold sumsF
    rw [up_ne (by omega), up_eq]
    unfold warmF
    rw [up_ne (by omega), noteF_o hi hh (by omega)]
  · unfold rchF
    rw [snt_o hN (by omega)]
    unfold sumsF
    rw [up_eq]
    unfold warmF
    rw [up_ne (by omega), noteF_o hi hh (by omega)]
theorem q_request {B : Int} {M : Mem} {r : Row} (I : Inv B M r) {i key : Int} (hi : 0 ≤ i ∧ i < r 865) (hk : 0 ≤ key ∧ key < 256) {A S s : Nat} {cr : Int} {N : Nat} (hN : r 863 = N) (key0 : ∀ M, ST M 1 r → ∃ M', f_X6_find 1 i (key.tdiv 16) M = some (0, M') ∧ RT r (key.tdiv 16) M' A S s cr ∧ Kp 206 4 M M') : ∃ M', f_X9_request i key M = some ((s : Int) + cr * r 863, M') ∧ Inv (B + 1000) M' (rchF r i (key.tdiv 16) ((s : Int) + cr * r 863) cr S N) ∧ Top (B + 1000) M' r := by
  have hnr := WF1_nr I.2.1.2.1.1
  have g1 := jR I (v := i) ⟨by omega, by omega⟩
  obtain ⟨M1, M', e1, e2, e3, e4, e5, -, -, -⟩ := q_served I hi hk (v3 := -1) (Or.inl rfl) hN key0
  refine ⟨M', ?_, e4, e5⟩
  unfold f_X9_request
  rw [g1, zbS, bitR, bit0, if_pos hi, q_isKey ⟨by omega, by omega⟩, zbS, bitR, bit0, if_pos hk, e1, zbS, e2, zbS]
set_option maxRecDepth 20000 in
theorem rc_224 {B : Int} {r : Row} (W : WF B r) (hB : 0 ≤ B) {a : Int} (ha : ∀ M, ST M 1 r → f_L_all M = some (a, M)) {i key : Int} (hi : 0 ≤ i ∧ i < r 865) (hk : 0 ≤ key ∧ key < 256) {A S s : Nat} {cr : Int} {pl : Nat → Int} (key0 : ∀ M, ST M 1 r → ∃ M', f_X6_find 1 i (key.tdiv 16) M = some (0, M') ∧ RT r (key.tdiv 16) M' A S s cr ∧ Kp 206 4 M M' ∧ ∀ t : Nat, (t : Int) ≤ s + cr → M' 207 t = pl t) (hcr : cr = 0 ∨ cr = 1) (hs : (s : Int) + cr ≤ 136) (hst : ∀ t, t < s → STEP r (key.tdiv 16) (pl t) (pl (t + 1))) : ∀ (d v F : Nat) (M : Mem), v + d = s → d < F → Inv B M r → ∃ M', f_L_isReached_b224 F i key (key.tdiv 16) ((s : Int) + cr * r 863) s cr v M = some (1, M') ∧ Inv (B + 1000) M' r := by
  have hn := WF1_n W.1
  have hnr := WF1_nr W.1
  have hi6 : 0 ≤ i ∧ i < 6 := by omega
  have hx2 : key.tdiv 16 = key / 16 := Int.tdiv_eq_ediv_of_nonneg hk.1
  have hh : 0 ≤ key.tdiv 16 ∧ key.tdiv 16 < 16 := by omega
  have hat := WF1_at W.1 hh.1 hh.2
  have key1 : ∀ M, ST M 1 r → ∃ M', f_X6_find 1 i (key.tdiv 16) M = some (0, M') ∧ RT r (key.tdiv 16) M' A S s cr ∧ Kp 206 4 M M' := fun M hM => by
    obtain ⟨M', k1, k2, k3, -⟩ := key0 M hM
    exact ⟨M', k1, k2, k3⟩
  intro d
  induction d with
  | zero =>
    intro v F M h1 h2 I
    obtain ⟨F, rfl⟩ : ∃ k, F = k + 1 := ⟨F - 1, by omega⟩
    obtain rfl : v = s := by omega
    have hht := WF1_heat W.1 hh.1 hh.2
    obtain ⟨M1, q1, I1, T1⟩ := q_request I hi hk (N := (r 863).toNat) (by omega) key1
    obtain ⟨f1, f2, f3, f4, f5⟩ := rch_facts W (i := i) (h := key.tdiv 16) (ho := (v : Int) + cr * r 863) (cr := cr) (S := S) (N := (r 863).toNat) hi6 hh (by omega)
    have f6 : rchF r i (key.tdiv 16) ((v : Int) + cr * r 863) cr S (r 863).toNat 865 = r 865 := rchF_o hi6 hh (by omega) (by omega)
    obtain ⟨r2, hr2⟩ : ∃ r2, rchF r i (key.tdiv 16) ((v : Int) + cr * r 863) cr S (r 863).toNat = r2 := ⟨_, rfl⟩
    rw [hr2] at I1 f1 f2 f3 f4 f5 f6
    have W1 := I1.2.1.2.1
    have S1 := I1.2.1.1
    have hht2 := WF1_heat W1.1 hh.1 hh.2
    have hi2 : 0 ≤ i ∧ i < r2 865 := by omega
    -- the next one takes no hop
    obtain ⟨A2, S2, s2, cr2, pl2, key2⟩ := q_find W1 (i := i) (h := key.tdiv 16) hi6 hh
    have key3 : ∀ M, ST M 1 r2 → ∃ M', f_X6_find 1 i (key.tdiv 16) M = some (0, M') ∧ RT r2 (key.tdiv 16) M' A2 S2 s2 cr2 ∧ Kp 206 4 M M' := fun M hM => by
      obtain ⟨M', k1, k2, k3, -⟩ := key2 M hM
      exact ⟨M', k1, k2, k3⟩
    have none2 : (s2 : Int) + cr2 * r2 863 = 0 := by
      obtain ⟨M', k1, k2, k3, k4, -⟩ := key2 M1 S1
      obtain ⟨-, -, -, -, ⟨-, z6⟩, -, -, -, z9, -, z11⟩ := k2
      have e0 : M' 207 0 = r2 (416 + key.tdiv 16).toNat := by rw [k4, f1, f2]
      have s0 : s2 = 0 := by
        by_cases c : s2 = 0
        · exact c
        · exact absurd e0 (z9 0 (by omega)).1
      have c0 : cr2 = 0 := by
        rcases z6 with e | e
        · exact e
        · have h := z11 e
          rw [s0] at h
          exact absurd e0 h
      rw [s0, c0, Int.zero_mul]
      rfl
    obtain ⟨M2, g1, g2⟩ := q_reach I1 hi2 hk key3 (w := 0) (by decide)
    have g3 : rchV r2 A2 S2 s2 cr2 0 = 0 := none2
    rw [g3] at g1
    have I2 : Inv (B + 1000) M2 r2 := Inv_to I1 (Int.le_refl _) (fun y hy => g2 y (by omega))
    have T2 : Top (B + 1000) M2 r := Top_to T1 (Int.le_refl _) (fun y h1 h2 => g2 y (by omega))
    obtain ⟨x, M3, u1, u2, I3, -⟩ := q_undo I2 T2
    refine ⟨M3, ?_, I3⟩
    unfold f_L_isReached_b224 f_L_isReached_b449 f_L_isReached_b478
    rw [if_pos (by omega), if_pos (by omega), if_pos (by omega), ha M I.2.1.1, zbS, t_shard I.2.1.1 W hh (by decide), zbS, show shV r (key.tdiv 16) 1 = r (432 + key.tdiv 16).toNat from rfl, t_count I.2.1.1 W (by decide), zbS, show cnV r 11 = r 869 from rfl, t_count I.2.1.1 W (by decide), zbS, show cnV r 12 = r 870 from rfl, q1, zbS, if_pos (Or.inl rfl), if_pos rfl]
    rw [t_remembered S1 W1 hi2 hh, zbS, t_shard S1 W1 hh (by decide), zbS, show shV r2 (key.tdiv 16) 0 = r2 (416 + key.tdiv 16).toNat from rfl, f1, f2, if_pos (Or.inl rfl), if_pos rfl, t_shard S1 W1 hh (by decide), zbS, show shV r2 (key.tdiv 16) 1 = r2 (432 + key.tdiv 16).toNat from rfl, if_pos (by omega), if_pos (by omega), if_neg (by omega)]
    rw [t_count S1 W1 (by decide), zbS, show cnV r2 11 = r2 869 from rfl, f4, if_pos (Or.inl rfl), if_pos rfl, t_count S1 W1 (by decide), zbS, show cnV r2 12 = r2 870 from rfl, f5, if_pos (Or.inl rfl), if_pos rfl, g1, zbS, if_pos (by decide), if_pos rfl]
    rw [if_pos (by decide), if_neg (by decide), u1, zbS, if_pos (by omega), if_neg (by omega), ha M3 I3.2.1.1, zbS, zcmp_rf, if_pos (by decide), if_pos rfl, if_pos (Or.inr rfl)]
  | succ d ih =>
    intro v F M h1 h2 I
    obtain ⟨F, rfl⟩ : ∃ k, F = k + 1 := ⟨F - 1, by omega⟩
    obtain ⟨t1, t2, t3, t4, t5, t6⟩ := hst v (by omega)
    obtain ⟨M1, w1, k1⟩ := q_wayk I hi hk key0 (w := (v : Int)) (by omega)
    have I1 : Inv B M1 r := Inv_to I (Int.le_refl _) (fun y hy => k1 y (by omega))
    obtain ⟨M2, w2, k2⟩ := q_wayk I1 hi hk key0 (w := (v : Int) + 1) (by omega)
    have I2 : Inv B M2 r := Inv_to I1 (Int.le_refl _) (fun y hy => k2 y (by omega))
    rw [if_pos (by omega), show ((v : Int)).toNat = v by omega] at w1
    rw [if_pos (by omega), show ((v : Int) + 1).toNat = v + 1 by omega] at w2
    obtain ⟨M', i1, i2⟩ := ih (v + 1) F M2 (by omega) (by omega) I2
    push_cast at i1
    refine ⟨M', ?_, i2⟩
    have S2 := I2.2.1.1
    have htk := WF1_trk W.1 (p := pl v) t2.1 (by omega) hh.1 hh.2
    have hpo := WF1_post W.1 (p := pl v) t2.1 (by omega) hh.1 hh.2
    have hiq := WF1_inn W.1 (p := pl (v + 1)) t3.1 (by omega)
    unfold f_L_isReached_b224 f_L_isReached_b297 f_L_isReached_b328
    rw [if_pos (by omega), if_pos (by omega), if_neg (by omega), w1, zbS, w2, zbS, t_track S2 W t2 hh (by decide), zbS, t_shard S2 W hh (by decide), zbS, show shV r (key.tdiv 16) 0 = r (416 + key.tdiv 16).toNat from rfl, if_pos (Or.inr ⟨by omega, by omega⟩), if_neg t1, if_pos (Or.inr ⟨by omega, by omega⟩), if_neg t4]
    by_cases c : r (160 + 16 * pl v + key.tdiv 16).toNat = 0
    · have e0 : trV r (pl v) (key.tdiv 16) 0 = -5 := by unfold trV; rw [if_pos rfl, if_pos c]
      rw [e0, if_pos (by decide), if_pos (by decide), if_pos (by decide), if_neg (by decide), t_track S2 W t2 hh (by decide), zbS]
      by_cases c2 : r (32 + 16 * pl v + key.tdiv 16).toNat = 0
      · have e2 : trV r (pl v) (key.tdiv 16) 2 = -5 := by unfold trV; rw [if_neg (by decide), if_neg (by decide), if_pos c2]
        have hi1 : r ((0 + 4 * pl (v + 1)) + 2).toNat = 1 := by
          rcases t6 c with ⟨q, -⟩ | q
          · exact absurd c2 q
          · exact q
        rw [e2, if_pos (Or.inr ⟨by omega, by decide⟩), if_neg (by omega), t_pasture S2 W t3 (by decide), zbS, show paV r (pl (v + 1)) 2 = r ((0 + 4 * pl (v + 1)) + 2).toNat from rfl, hi1, if_pos (by decide), if_neg (by decide)]
        exact i1
      · have e2 : trV r (pl v) (key.tdiv 16) 2 = r (32 + 16 * pl v + key.tdiv 16).toNat - 1 := by unfold trV; rw [if_neg (by decide), if_neg (by decide), if_neg c2]
        rw [e2, if_pos (Or.inr ⟨by omega, by omega⟩)]
        by_cases c3 : pl (v + 1) = r (32 + 16 * pl v + key.tdiv 16).toNat - 1
        · rw [if_pos c3]; exact i1
        · have hi1 : r ((0 + 4 * pl (v + 1)) + 2).toNat = 1 := by
            rcases t6 c with ⟨-, q⟩ | q
            · exact absurd q c3
            · exact q
          rw [if_neg c3, t_pasture S2 W t3 (by decide), zbS, show paV r (pl (v + 1)) 2 = r ((0 + 4 * pl (v + 1)) + 2).toNat from rfl, hi1, if_pos (by decide), if_neg (by decide)]
          exact i1
    · have e0 : trV r (pl v) (key.tdiv 16) 0 = r (160 + 16 * pl v + key.tdiv 16).toNat - 1 := by unfold trV; rw [if_pos rfl, if_neg c]
      rw [e0, if_pos (by omega), if_neg (by omega), t5 c, if_pos (Or.inl rfl), if_pos rfl, if_pos (by omega), if_pos (by omega)]
      exact i1
theorem q_isReached {B : Int} {M : Mem} {r : Row} (I : Inv B M r) (h1 : 1 ≤ r 865) (v1 : Int) : ∃ M', f_L_isReached v1 M = some (1, M') ∧ Inv (B + 1000) M' r := by
  have W := I.2.1.2.1
  have hn := WF1_n W.1
  have hnr := WF1_nr W.1
  obtain ⟨a, ha⟩ := q_all W
  obtain ⟨i, l1, hi⟩ := q_low (v := v1) (n := r 865) (by omega) M
  obtain ⟨key, l2, hk⟩ := q_low (v := ishr v1 3) (n := 256) (by decide) M
  have hi6 : 0 ≤ i ∧ i < 6 := by omega
  have hx2 : key.tdiv 16 = key / 16 := Int.tdiv_eq_ediv_of_nonneg hk.1
  have hh : 0 ≤ key.tdiv 16 ∧ key.tdiv 16 < 16 := by omega
  have hat := WF1_at W.1 hh.1 hh.2
  obtain ⟨A, S, s, cr, pl, keyF⟩ := q_find W (i := i) (h := key.tdiv 16) hi6 hh
  have key0 : ∀ M, ST M 1 r → ∃ M', f_X6_find 1 i (key.tdiv 16) M = some (0, M') ∧ RT r (key.tdiv 16) M' A S s cr ∧ Kp 206 4 M M' ∧ ∀ t : Nat, (t : Int) ≤ s + cr → M' 207 t = pl t := fun M hM => by
    obtain ⟨M', k1, k2, k3, -, k5⟩ := keyF M hM
    exact ⟨M', k1, k2, k3, k5⟩
  have key1 : ∀ M, ST M 1 r → ∃ M', f_X6_find 1 i (key.tdiv 16) M = some (0, M') ∧ RT r (key.tdiv 16) M' A S s cr ∧ Kp 206 4 M M' := fun M hM => by
    obtain ⟨M', k1, k2, k3, -⟩ := keyF M hM
    exact ⟨M', k1, k2, k3⟩
  obtain ⟨hcr, hs, hA, hS, hst, hp0, hpl⟩ : (cr = 0 ∨ cr = 1) ∧ (s : Int) + cr ≤ 136 ∧ InnS r A ∧ InnS r S ∧ (∀ t, t < s → STEP r (key.tdiv 16) (pl t) (pl (t + 1))) ∧ pl 0 = r (756 + 16 * i + key.tdiv 16).toNat ∧ pl ((s : Int) + cr).toNat = r (416 + key.tdiv 16).toNat := by
    obtain ⟨M', k1, k2, k3, k4, k5⟩ := keyF M I.2.1.1
    obtain ⟨-, -, -, -, ⟨-, z6⟩, -, ⟨-, z8⟩, ⟨z9, z10⟩, z11, z12, -⟩ := k2
    refine ⟨z6, z8, z9, z10, fun t ht => ?_, by rw [← k5 0 (by omega), k4], by rw [← k5 _ (by omega), z12]⟩
    rw [← k5 t (by omega), ← k5 (t + 1) (by omega)]
    exact z11 t ht
  have rc : ∀ (w : Int) (M : Mem), (0 ≤ w ∧ w ≤ 4) → Inv B M r → ∃ M', f_X9_reach i key w M = some (rchV r A S s cr w, M') ∧ Inv B M' r := fun w M hw hI => by
    obtain ⟨M', g1, g2⟩ := q_reach hI hi hk key1 hw
    exact ⟨M', g1, Inv_to hI (Int.le_refl _) (fun y hy => g2 y (by omega))⟩
  have wy : ∀ (w : Int) (M : Mem), (0 ≤ w ∧ w ≤ 1000) → Inv B M r → ∃ M', f_X9_way i key w M = some (if w ≤ (s : Int) + cr then pl w.toNat else -5, M') ∧ Inv B M' r := fun w M hw hI => by
    obtain ⟨M', g1, g2⟩ := q_wayk hI hi hk key0 hw
    exact ⟨M', g1, Inv_to hI (Int.le_refl _) (fun y hy => g2 y (by omega))⟩
  obtain ⟨M1, r1, I1⟩ := rc 0 M (by decide) I
  obtain ⟨M2, r2, I2⟩ := rc 1 M1 (by decide) I1
  obtain ⟨M3, r3, I3⟩ := rc 2 M2 (by decide) I2
  obtain ⟨M4, r4, I4⟩ := rc 3 M3 (by decide) I3
  obtain ⟨M5, r5, I5⟩ := rc 4 M4 (by decide) I4
  obtain ⟨M6, w1, I6⟩ := wy 0 M5 (by decide) I5
  obtain ⟨M7, w2, I7⟩ := wy ((s : Int) + cr) M6 (by omega) I6
  obtain ⟨M8, w3, I8⟩ := wy ((s : Int) + cr + 1) M7 (by omega) I7
  obtain ⟨M9, r6, I9⟩ := rc 2 M8 (by decide) I8
  obtain ⟨M10, r7, I10⟩ := rc 3 M9 (by decide) I9
  rw [show rchV r A S s cr 0 = (s : Int) + cr * r 863 from rfl] at r1
  rw [show rchV r A S s cr 1 = (s : Int) - pop A - pop S from rfl] at r2
  rw [show rchV r A S s cr 2 = pop A from rfl] at r3 r6
  rw [show rchV r A S s cr 3 = pop S from rfl] at r4 r7
  rw [show rchV r A S s cr 4 = cr from rfl] at r5
  rw [if_pos (by omega), show (0 : Int).toNat = 0 from rfl, hp0] at w1
  rw [if_pos (Int.le_refl _), hpl] at w2
  rw [if_neg (by omega)] at w3
  have hbA := pop_b A
  have hbS := pop_b S
  have hiA := pop_inn W (N := (r 863).toNat) (by omega) hA
  have hiS := pop_inn W (N := (r 863).toNat) (by omega) hS
  have hib := innF_nn (r := r) (N := (r 863).toNat) (by omega)
  have hmem := WF1_mem W.1 hi6.1 hi6.2 hh.1 hh.2
  obtain ⟨M', i1, i2⟩ := rc_224 W I.1 ha hi hk key0 hcr hs hst s 0 100000 M10 (by omega) (by omega) I10
  refine ⟨M', ?_, i2⟩
  unfold f_L_isReached
  rw [t_count I.2.1.1 W (by decide), zbS, show cnV r 6 = r 865 from rfl, if_pos (by omega), if_neg (by omega), l1, zbS, l2, zbS, if_pos (by omega), zltS, r1, zbS, r2, zbS, r3, zbS, r4, zbS, zltS, r5, zbS, show (s : Int) - pop A - pop S + pop A + pop S = s by omega, zltS, t_count I5.2.1.1 W (by decide), zbS, show cnV r 3 = r 863 from rfl, if_pos (Or.inl rfl), if_pos rfl, w1, zbS, t_remembered I6.2.1.1 W hi hh, zbS, if_pos (Or.inl rfl), if_pos rfl, w2, zbS, t_shard I7.2.1.1 W hh (by decide), zbS, show shV r (key.tdiv 16) 0 = r (416 + key.tdiv 16).toNat from rfl, if_pos (Or.inl rfl), if_pos rfl, w3, zbS, if_pos (by decide), if_pos rfl, r6, zbS, t_count I9.2.1.1 W (by decide), zbS, show cnV r 4 = innF r (r 863).toNat from rfl, if_pos (by omega), if_pos (by omega), if_neg (by omega), r7, zbS, t_count I10.2.1.1 W (by decide), zbS, show cnV r 4 = innF r (r 863).toNat from rfl, if_pos (by omega), if_pos (by omega), if_pos (by omega)]
  exact i1

/-! the way to a shard, the class alone: each step of it -/
def InnS (r : Row) (A : Nat) : Prop := ∀ p : Nat, p < 8 → tb A p = 1 → r ((0 + 4 * (p : Int)) + 2).toNat = 1
def STEP (r : Row) (h p q : Int) : Prop :=
  p ≠ r (416 + h).toNat ∧ (0 ≤ p ∧ p < r 863) ∧ (0 ≤ q ∧ q < r 863) ∧ p ≠ q ∧ (r (160 + 16 * p + h).toNat ≠ 0 → q = r (160 + 16 * p + h).toNat - 1) ∧ (r (160 + 16 * p + h).toNat = 0 → (r (32 + 16 * p + h).toNat ≠ 0 ∧ q = r (32 + 16 * p + h).toNat - 1) ∨ r ((0 + 4 * q) + 2).toNat = 1)
def TR (r : Row) (h : Int) (M : Mem) (k : Nat) : Prop := ∀ t, t < k → STEP r h (M 207 t) (M 207 (t + 1))
def FC (r : Row) (M : Mem) (A S k : Nat) : Prop :=
  (A < 256 ∧ S < 256) ∧ ((∀ p, p < 8 → M 208 p = tb A p) ∧ ∀ p, p < 8 → M 209 p = tb S p) ∧ (M 206 2 = pop A ∧ M 206 3 = pop S) ∧ M 206 1 + pop A + pop S = k ∧ (M 206 5 = (k : Int) + 1 ∧ k ≤ 136) ∧ (InnS r A ∧ InnS r S)
def RT (r : Row) (h : Int) (M : Mem) (A S s : Nat) (cr : Int) : Prop :=
  (A < 256 ∧ S < 256) ∧ (∀ p, p < 8 → M 209 p = tb S p) ∧ (M 206 2 = pop A ∧ M 206 3 = pop S) ∧ M 206 1 + pop A + pop S = s ∧ (M 206 4 = cr ∧ (cr = 0 ∨ cr = 1)) ∧ M 206 0 = (s : Int) + cr * r 863 ∧ (M 206 5 = (s : Int) + cr + 1 ∧ (s : Int) + cr ≤ 136) ∧ (InnS r A ∧ InnS r S) ∧ TR r h M s ∧ M 207 ((s : Int) + cr).toNat = r (416 + h).toNat ∧ (cr = 1 → M 207 s ≠ r (416 + h).toNat)
theorem InnS_put {r : Row} {A p : Nat} (hA : A < 256) (hp : p < 8) (h : InnS r A) (hi : r ((0 + 4 * (p : Int)) + 2).toNat = 1) : InnS r (A ||| 2 ^ p) := by
  intro q hq ht
  rw [bit_put A hA p hp q hq] at ht
  by_cases e : q = p
  · rw [e]; exact hi
  · rw [if_neg e] at ht; exact h q hq ht
theorem FC_put {r : Row} {M : Mem} {A S k : Nat} (t : Int) (hk : k ≤ 135) (h1 : A < 256 ∧ S < 256) (h2 : ∀ p, p < 8 → M 208 p = tb A p) (h3 : ∀ p, p < 8 → M 209 p = tb S p) (h4 : M 206 2 = pop A) (h5 : M 206 3 = pop S) (h6 : M 206 1 + pop A + pop S = (k : Int) + 1) (h8 : InnS r A) (h9 : InnS r S) : FC r (putM M k t) A S (k + 1) := by
  unfold putM
  have m0 : ∀ j, j ≠ 5 → wr (wr M 207 (k + 1) t) 206 5 ((k : Int) + 2) 206 j = M 206 j := fun j hj => by rw [wr_eq, up_ne hj, wr_ne (by decide)]
  refine ⟨h1, ⟨fun p hp => ?_, fun p hp => ?_⟩, ⟨?_, ?_⟩, ?_, ⟨?_, by omega⟩, ⟨h8, h9⟩⟩
  · rw [wr_ne (by decide), wr_ne (by decide)]; exact h2 p hp
  · rw [wr_ne (by decide), wr_ne (by decide)]; exact h3 p hp
  · rw [m0 2 (by decide)]; exact h4
  · rw [m0 3 (by decide)]; exact h5
  · rw [m0 1 (by decide)]; omega
  · rw [wr_eq, up_eq]; omega
theorem putM_0 {M : Mem} {k : Nat} {t : Int} {j : Nat} (hj : j ≠ 5) : putM M k t 206 j = M 206 j := by unfold putM; rw [wr_eq, up_ne hj, wr_ne (by decide)]
theorem putM_7 {M : Mem} {k : Nat} {t : Int} {j : Nat} (hj : j ≤ k) : putM M k t 207 j = M 207 j := by unfold putM; rw [wr_ne (by decide), wr_eq, up_ne (by omega)]
theorem putM_n {M : Mem} {k : Nat} {t : Int} : putM M k t 207 (k + 1) = t := by unfold putM; rw [wr_ne (by decide), wr_eq, up_eq]
theorem TR_put {r : Row} {h : Int} {M M1 : Mem} {k : Nat} {p t : Int} (hT : TR r h M k) (h7 : M1 207 = M 207) (hp : M 207 k = p) (hs : STEP r h p t) : TR r h (putM M1 k t) (k + 1) := by
  intro i hi
  by_cases e : i = k
  · subst e
    rw [putM_n, putM_7 (Nat.le_refl _), h7, hp]
    exact hs
  · rw [putM_7 (by omega), putM_7 (by omega), h7]
    exact hT i (by omega)
theorem nin_ok {r : Row} {p : Int} {Z : Nat} : ∀ n : Nat, ninF r p Z n = -5 ∨ (ninF r p Z n ≠ p ∧ r ((0 + 4 * ninF r p Z n) + 2).toNat = 1) := by
  intro n
  induction n with
  | zero => exact Or.inl rfl
  | succ n ih =>
    rw [ninF_s]
    by_cases c : ((n : Int) ≠ p ∧ r ((0 + 4 * (n : Int)) + 2).toNat = 1 ∧ tb Z n = 0) ∧ (ninF r p Z n = -5 ∨ dlF r (n : Int) p < dlF r (ninF r p Z n) p)
    · rw [if_pos c]; exact Or.inr ⟨c.1.1, c.1.2.1⟩
    · rw [if_neg c]; exact ih
set_option maxRecDepth 20000 in
theorem q_find_l {B : Int} {r : Row} (W : WF B r) {N : Nat} (hN : r 863 = N) {h : Int} (hh : 0 ≤ h ∧ h < 16) {rk : Int → Int → Nat} (hrk : ∀ p h : Int, 0 ≤ p → p < 8 → 0 ≤ h → h < 16 → r (160 + 16 * p + h).toNat ≠ 0 → rk h p < rk h (r (160 + 16 * p + h).toNat - 1)) : ∀ (f : Nat) (p : Int) (A S k : Nat), 0 ≤ p ∧ p < r 863 → A < 256 → S < 256 → (k : Int) + (8 * (17 - pop A - pop S) - nrk rk h p) ≤ 136 → 8 * (17 - pop A - pop S) - nrk rk h p ≤ f → ∃ (A' S' s : Nat) (cr : Int) (pl : Nat → Int), ∀ (F : Nat) (M : Mem), f < F → ST M 1 r → FC r M A S k → M 206 4 = 0 → M 206 0 = k → M 207 k = p → TR r h M k → ∃ M', f_X6_find_b35 1 F h p (r (416 + h).toNat) k M = some (0, M') ∧ RT r h M' A' S' s cr ∧ Kp 206 4 M M' ∧ (∀ t, t ≤ k → M' 207 t = M 207 t) ∧ ∀ t : Nat, k ≤ t → (t : Int) ≤ s + cr → M' 207 t = pl t := by
  have hn := WF1_n W.1
  have hat := WF1_at W.1 hh.1 hh.2
  have stopM : ∀ (F : Nat) (M : Mem) (k : Nat) (p : Int), k ≤ 136 → p = r (416 + h).toNat → f_X6_find_b35 1 (F + 1) h p (r (416 + h).toNat) k M = some (0, M) := by
    intro F M k p hk hp
    unfold f_X6_find_b35 f_X6_find_b72
    rw [if_pos (by omega), if_neg (by omega), if_pos (by omega), if_pos (by omega), if_pos hp]
  intro f
  induction f with
  | zero =>
    intro p A S k hp hA hS hb hf
    exfalso
    have := nrk_b rk h (p := p) (by omega)
    have := pop_b A
    have := pop_b S
    omega
  | succ f ih =>
    intro p A S k hp z1 z1' hb hf
    have hp8 : 0 ≤ p ∧ p < 8 := by omega
    have hb1 := nrk_b rk h hp8
    have hb2 := pop_b A
    have hb3 := pop_b S
    by_cases cat : p = r (416 + h).toNat
    · refine ⟨A, S, k, 0, fun _ => p, fun F M hF hS hR h4 h0 h7 hT => ?_⟩
      obtain ⟨F, rfl⟩ : ∃ k, F = k + 1 := ⟨F - 1, by omega⟩
      obtain ⟨-, ⟨z3, z3'⟩, ⟨z4, z4'⟩, z5, ⟨z8, z8'⟩, z9, z9'⟩ := id hR
      refine ⟨M, stopM F M k p (by omega) cat, ⟨⟨z1, z1'⟩, z3', ⟨z4, z4'⟩, z5, ⟨h4, Or.inl rfl⟩, by omega, ⟨by omega, by omega⟩, ⟨z9, z9'⟩, hT, ?_, fun q => by omega⟩, Kp_id, fun _ _ => rfl, fun t t1 t2 => ?_⟩
      · rw [show ((k : Int) + 0).toNat = k by omega, h7, cat]
      · obtain rfl : t = k := by omega
        exact h7
    have hk : k ≤ 135 := by omega
    have goM : ∀ (F : Nat) (M : Mem) (t : Int) (M1 : Mem), f_X6_next 1 h p M = some (t, M1) → M1 206 5 = (k : Int) + 1 → f_X6_find_b35 1 (F + 1) h p (r (416 + h).toNat) k M = f_X6_find_b35 1 F h t (r (416 + h).toNat) ((k + 1 : Nat) : Int) (putM M1 k t) := by
      intro F M t M1 e1 e2
      conv => lhs; unfold f_X6_find_b35
      rw [if_pos (by omega), if_neg (by omega), if_pos (by omega), if_pos (by omega), if_neg cat, e1, zbS, q_put hk e2, zbS]
      rfl
    have kpM : ∀ (M M1 : Mem) (t : Int), Kp 206 4 M M1 → Kp 206 4 M (putM M1 k t) := fun M M1 t hK => Kp_wr (Kp_wr hK (by omega)) (by omega)
    have stM : ∀ M M1, ST M 1 r → Kp 206 4 M M1 → ST M1 1 r := fun M M1 hS hK => ST_kp hS hK (by decide)
    -- what comes behind a step is known by the step behind it
    have back : ∀ (M M1 M' : Mem) (t : Int) (s : Nat) (cr : Int) (pl : Nat → Int), M1 207 = M 207 → M 207 k = p → (∀ x, x ≤ k + 1 → M' 207 x = putM M1 k t 207 x) → (∀ x : Nat, k + 1 ≤ x → (x : Int) ≤ s + cr → M' 207 x = pl x) → (∀ x, x ≤ k → M' 207 x = M 207 x) ∧ ∀ x : Nat, k ≤ x → (x : Int) ≤ s + cr → M' 207 x = if x = k then p else pl x := by
      intro M M1 M' t s cr pl e1 e2 e3 e4
      have e5 : ∀ x, x ≤ k → M' 207 x = M 207 x := fun x hx => by rw [e3 x (by omega), putM_7 hx, e1]
      refine ⟨e5, fun x x1 x2 => ?_⟩
      by_cases e : x = k
      · rw [if_pos e, e, e5 k (Nat.le_refl _), e2]
      · rw [if_neg e]; exact e4 x (by omega) x2
    by_cases ct : Trk r h p
    · have hb := WF1_trk W.1 hp8.1 hp8.2 hh.1 hh.2
      have hlt := nrk_lt (h := h) hp8 (hrk p h hp8.1 hp8.2 hh.1 hh.2 (by omega))
      have hrl := hrk p h hp8.1 hp8.2 hh.1 hh.2 (by omega)
      have hne : p ≠ r (160 + 16 * p + h).toNat - 1 := fun q => by rw [← q] at hrl; omega
      have hst : STEP r h p (r (160 + 16 * p + h).toNat - 1) := ⟨cat, hp, by omega, hne, fun _ => rfl, fun q => by omega⟩
      obtain ⟨A', S', s, cr, pl, key⟩ := ih (r (160 + 16 * p + h).toNat - 1) A S (k + 1) (by omega) z1 z1' (by omega) (by omega)
      refine ⟨A', S', s, cr, fun x => if x = k then p else pl x, fun F M hF hS hR h4 h0 h7 hT => ?_⟩
      obtain ⟨F, rfl⟩ : ∃ k, F = k + 1 := ⟨F - 1, by omega⟩
      obtain ⟨-, ⟨z3, z3'⟩, ⟨z4, z4'⟩, z5, ⟨z8, z8'⟩, z9, z9'⟩ := id hR
      have g1 := q_next_t hS.1 W hh hp8 ct
      have K1 : Kp 206 4 M (wr (wr M 206 0 (M 206 0 + 1)) 206 1 (M 206 1 + 1)) := Kp_wr (Kp_wr Kp_id (by omega)) (by omega)
      have e207 : (wr (wr M 206 0 (M 206 0 + 1)) 206 1 (M 206 1 + 1)) 207 = M 207 := by rw [wr_ne (by decide), wr_ne (by decide)]
      have hR1 : FC r (putM (wr (wr M 206 0 (M 206 0 + 1)) 206 1 (M 206 1 + 1)) k (r (160 + 16 * p + h).toNat - 1)) A S (k + 1) := FC_put _ hk ⟨z1, z1'⟩ (fun q hq => by simp [wr]; exact z3 q hq) (fun q hq => by simp [wr]; exact z3' q hq) (by simp [wr, up, z4]) (by simp [wr, up, z4']) (by simp [wr, up]; omega) z9 z9'
      obtain ⟨M', i1, i3, i4, i5, i6⟩ := key F _ (by omega) (stM _ _ hS (kpM _ _ _ K1)) hR1 (by rw [putM_0 (by decide)]; simp [wr, up, h4]) (by rw [putM_0 (by decide)]; simp [wr, up, h0]) putM_n (TR_put hT e207 h7 hst)
      obtain ⟨j1, j2⟩ := back M _ M' _ s cr pl e207 h7 i5 i6
      refine ⟨M', ?_, i3, Kp_tr (kpM _ _ _ K1) i4, j1, j2⟩
      rw [goM F M _ _ g1 (by simp [wr, up, z8])]; exact i1
    have htb := WF1_trk W.1 hp8.1 hp8.2 hh.1 hh.2
    by_cases cf : Fwd r h p A
    · have hb := WF1_post W.1 hp8.1 hp8.2 hh.1 hh.2
      have hcf := cf.2.1
      have hw := W.2.1.2.1 p h hp8.1 hp8.2 hh.1 hh.2
      have hi := WF1_inn W.1 hp8.1 hp8.2
      have hip : r ((0 + 4 * p) + 2).toNat = 1 := by
        by_cases c0 : r ((0 + 4 * p) + 2).toNat = 0
        · exact absurd (hw c0) hcf
        · omega
      have ht8 : 0 ≤ r (32 + 16 * p + h).toNat - 1 ∧ r (32 + 16 * p + h).toNat - 1 < 8 := by omega
      have hnb := nrk_b rk h ht8
      have hps := (bit_set A z1 p.toNat (by omega)).2
      have hps2 := hps.2 cf.1
      have hst : STEP r h p (r (32 + 16 * p + h).toNat - 1) := ⟨cat, hp, by omega, fun q => cf.2.2 q.symm, fun q => by omega, fun _ => Or.inl ⟨hcf, rfl⟩⟩
      obtain ⟨A', S', s, cr, pl, key⟩ := ih (r (32 + 16 * p + h).toNat - 1) (A ||| 2 ^ p.toNat) S (k + 1) (by omega) hps.1 z1' (by omega) (by omega)
      refine ⟨A', S', s, cr, fun x => if x = k then p else pl x, fun F M hF hS hR h4 h0 h7 hT => ?_⟩
      obtain ⟨F, rfl⟩ : ∃ k, F = k + 1 := ⟨F - 1, by omega⟩
      obtain ⟨-, ⟨z3, z3'⟩, ⟨z4, z4'⟩, z5, ⟨z8, z8'⟩, z9, z9'⟩ := id hR
      have n1 := q_next_o hS.1 W z3 hh hp8 ct
      rw [if_pos cf] at n1
      have K1 : Kp 206 4 M (wr (wr (wr M 206 0 (M 206 0 + 1)) 206 2 (M 206 2 + 1)) 208 p.toNat 1) := Kp_wr (Kp_wr (Kp_wr Kp_id (by omega)) (by omega)) (by omega)
      have e207 : (wr (wr (wr M 206 0 (M 206 0 + 1)) 206 2 (M 206 2 + 1)) 208 p.toNat 1) 207 = M 207 := by rw [wr_ne (by decide), wr_ne (by decide), wr_ne (by decide)]
      have hR1 : FC r (putM (wr (wr (wr M 206 0 (M 206 0 + 1)) 206 2 (M 206 2 + 1)) 208 p.toNat 1) k (r (32 + 16 * p + h).toNat - 1)) (A ||| 2 ^ p.toNat) S (k + 1) := FC_put _ hk ⟨hps.1, z1'⟩ (fun x hx => by
        rw [bit_put A z1 p.toNat (by omega) x hx, wr_eq]
        by_cases e : x = p.toNat
        · rw [e, up_eq, if_pos rfl]
        · rw [up_ne e, if_neg e, wr_ne (by decide), wr_ne (by decide)]; exact z3 x hx) (fun q hq => by simp [wr]; exact z3' q hq) (by rw [hps2]; simp [wr, up, z4]) (by simp [wr, up, z4']) (by rw [hps2]; simp [wr, up]; omega) (InnS_put z1 (by omega) z9 (by rw [show ((p.toNat : Nat) : Int) = p by omega]; exact hip)) z9'
      obtain ⟨M', i1, i3, i4, i5, i6⟩ := key F _ (by omega) (stM _ _ hS (kpM _ _ _ K1)) hR1 (by rw [putM_0 (by decide)]; simp [wr, up, h4]) (by rw [putM_0 (by decide)]; simp [wr, up, h0]) putM_n (TR_put hT e207 h7 hst)
      obtain ⟨j1, j2⟩ := back M _ M' _ s cr pl e207 h7 i5 i6
      refine ⟨M', ?_, i3, Kp_tr (kpM _ _ _ K1) i4, j1, j2⟩
      rw [goM F M _ _ n1 (by simp [wr, up, z8])]; exact i1
    have hnin := ninF_b r p (A ||| S) N
    by_cases cc : ninF r p (A ||| S) N = -5
    · refine ⟨A, S, k, 1, fun x => if x = k then p else r (416 + h).toNat, fun F M hF hS hR h4 h0 h7 hT => ?_⟩
      obtain ⟨F, rfl⟩ : ∃ k, F = k + 1 := ⟨F - 1, by omega⟩
      obtain ⟨-, ⟨z3, z3'⟩, ⟨z4, z4'⟩, z5, ⟨z8, z8'⟩, z9, z9'⟩ := id hR
      have n1 := q_next_o hS.1 W z3 hh hp8 ct
      rw [if_neg cf, q_b113 hS.1 W z3 z3' hN hh hp8, if_pos cc] at n1
      have K1 : Kp 206 4 M (wr (wr M 206 0 (M 206 0 + N)) 206 4 1) := Kp_wr (Kp_wr Kp_id (by omega)) (by omega)
      obtain ⟨F, rfl⟩ : ∃ k, F = k + 1 := ⟨F - 1, by omega⟩
      have e7 : wr (wr M 206 0 (M 206 0 + N)) 206 4 1 207 = M 207 := by simp [wr]
      refine ⟨putM (wr (wr M 206 0 (M 206 0 + N)) 206 4 1) k (r (416 + h).toNat), ?_, ⟨⟨z1, z1'⟩, fun q hq => ?_, ⟨?_, ?_⟩, ?_, ⟨?_, Or.inr rfl⟩, ?_, ⟨?_, by omega⟩, ⟨z9, z9'⟩, fun t ht => ?_, ?_, fun _ => ?_⟩, kpM _ _ _ K1, fun t ht => ?_, fun t t1 t2 => ?_⟩
      · rw [goM (F + 1) M _ _ n1 (by simp [wr, up, z8])]
        exact stopM F _ (k + 1) _ (by omega) rfl
      · unfold putM; simp [wr]; exact z3' q hq
      · rw [putM_0 (by decide)]; simp [wr, up, z4]
      · rw [putM_0 (by decide)]; simp [wr, up, z4']
      · rw [putM_0 (by decide)]; simp [wr, up]; omega
      · rw [putM_0 (by decide)]; simp [wr, up]
      · rw [putM_0 (by decide)]; simp [wr, up, h0, hN]
      · unfold putM; rw [wr_eq, up_eq]; omega
      · rw [putM_7 (by omega), putM_7 (by omega), e7]; exact hT t ht
      · rw [show ((k : Int) + 1).toNat = k + 1 by omega, putM_n]
      · rw [putM_7 (Nat.le_refl _), e7, h7]; exact cat
      · rw [putM_7 ht, e7]
      · show putM (wr (wr M 206 0 (M 206 0 + N)) 206 4 1) k (r (416 + h).toNat) 207 t = if t = k then p else r (416 + h).toNat
        by_cases e : t = k
        · rw [if_pos e, e, putM_7 (Nat.le_refl _), e7, h7]
        · rw [if_neg e, show t = k + 1 by omega, putM_n]
    · rcases hnin with e | ⟨hq1, hq2⟩
      · exact absurd e cc
      rcases nin_ok (r := r) (p := p) (Z := A ||| S) N with e | ⟨hq3, hq4⟩
      · exact absurd e cc
      have ht8 : 0 ≤ ninF r p (A ||| S) N ∧ ninF r p (A ||| S) N < 8 := by omega
      have hnb := nrk_b rk h ht8
      have hts : tb S (ninF r p (A ||| S) N).toNat = 0 := by
        have h5 := tb_or A S (ninF r p (A ||| S) N).toNat
        have h6 := tb_b S (ninF r p (A ||| S) N).toNat
        by_cases c : tb S (ninF r p (A ||| S) N).toNat = 0
        · exact c
        · rw [if_pos (Or.inr (by omega))] at h5; omega
      have hps := (bit_set S z1' (ninF r p (A ||| S) N).toNat (by omega)).2
      have hps2 := hps.2 hts
      have hst : STEP r h p (ninF r p (A ||| S) N) := ⟨cat, hp, by omega, fun q => hq3 q.symm, fun q => by omega, fun _ => Or.inr hq4⟩
      obtain ⟨A', S', s, cr, pl, key⟩ := ih (ninF r p (A ||| S) N) A (S ||| 2 ^ (ninF r p (A ||| S) N).toNat) (k + 1) (by omega) z1 hps.1 (by omega) (by omega)
      refine ⟨A', S', s, cr, fun x => if x = k then p else pl x, fun F M hF hS hR h4 h0 h7 hT => ?_⟩
      obtain ⟨F, rfl⟩ : ∃ k, F = k + 1 := ⟨F - 1, by omega⟩
      obtain ⟨-, ⟨z3, z3'⟩, ⟨z4, z4'⟩, z5, ⟨z8, z8'⟩, z9, z9'⟩ := id hR
      have n1 := q_next_o hS.1 W z3 hh hp8 ct
      rw [if_neg cf, q_b113 hS.1 W z3 z3' hN hh hp8, if_neg cc] at n1
      have K1 : Kp 206 4 M (wr (wr (wr M 206 0 (M 206 0 + 1)) 206 3 (M 206 3 + 1)) 209 (ninF r p (A ||| S) N).toNat 1) := Kp_wr (Kp_wr (Kp_wr Kp_id (by omega)) (by omega)) (by omega)
      have e207 : (wr (wr (wr M 206 0 (M 206 0 + 1)) 206 3 (M 206 3 + 1)) 209 (ninF r p (A ||| S) N).toNat 1) 207 = M 207 := by rw [wr_ne (by decide), wr_ne (by decide), wr_ne (by decide)]
      have hR1 : FC r (putM (wr (wr (wr M 206 0 (M 206 0 + 1)) 206 3 (M 206 3 + 1)) 209 (ninF r p (A ||| S) N).toNat 1) k (ninF r p (A ||| S) N)) A (S ||| 2 ^ (ninF r p (A ||| S) N).toNat) (k + 1) := FC_put _ hk ⟨z1, hps.1⟩ (fun q hq => by simp [wr]; exact z3 q hq) (fun x hx => by
        rw [bit_put S z1' (ninF r p (A ||| S) N).toNat (by omega) x hx, wr_eq]
        by_cases e : x = (ninF r p (A ||| S) N).toNat
        · rw [e, up_eq, if_pos rfl]
        · rw [up_ne e, if_neg e, wr_ne (by decide), wr_ne (by decide)]; exact z3' x hx) (by simp [wr, up, z4]) (by rw [hps2]; simp [wr, up, z4']) (by rw [hps2]; simp [wr, up]; omega) z9 (InnS_put z1' (by omega) z9' (by rw [show (((ninF r p (A ||| S) N).toNat : Nat) : Int) = ninF r p (A ||| S) N by omega]; exact hq4))
      obtain ⟨M', i1, i3, i4, i5, i6⟩ := key F _ (by omega) (stM _ _ hS (kpM _ _ _ K1)) hR1 (by rw [putM_0 (by decide)]; simp [wr, up, h4]) (by rw [putM_0 (by decide)]; simp [wr, up, h0]) putM_n (TR_put hT e207 h7 hst)
      obtain ⟨j1, j2⟩ := back M _ M' _ s cr pl e207 h7 i5 i6
      refine ⟨M', ?_, i3, Kp_tr (kpM _ _ _ K1) i4, j1, j2⟩
      rw [goM F M _ _ n1 (by simp [wr, up, z8])]; exact i1
theorem InnS_0 {r : Row} : InnS r 0 := fun p _ ht => by rw [tb_0] at ht; cases ht
/-- the whole way: it hangs on the row alone -/
theorem q_find {B : Int} {r : Row} (W : WF B r) {i h : Int} (hi : 0 ≤ i ∧ i < 6) (hh : 0 ≤ h ∧ h < 16) : ∃ (A S s : Nat) (cr : Int) (pl : Nat → Int), ∀ M, ST M 1 r → ∃ M', f_X6_find 1 i h M = some (0, M') ∧ RT r h M' A S s cr ∧ Kp 206 4 M M' ∧ M' 207 0 = r (756 + 16 * i + h).toNat ∧ ∀ t : Nat, (t : Int) ≤ s + cr → M' 207 t = pl t := by
  have hn := WF1_n W.1
  have hm := WF1_mem W.1 hi.1 hi.2 hh.1 hh.2
  obtain ⟨N, hN⟩ : ∃ N : Nat, r 863 = N := ⟨(r 863).toNat, by omega⟩
  obtain ⟨rk, hrk⟩ := W.2.1.2.2.2
  have hp0 := pop_0
  have hnb := nrk_b rk h (p := r (756 + 16 * i + h).toNat) (by omega)
  obtain ⟨A, S, s, cr, pl, key⟩ := q_find_l W hN hh hrk 200 (r (756 + 16 * i + h).toNat) 0 0 0 hm (by decide) (by decide) (by omega) (by omega)
  refine ⟨A, S, s, cr, pl, fun M hS => ?_⟩
  have a1 := hS.1.mem (p := i * 16 + h) (by omega) (by omega)
  have a2 := hS.1.at hh.1 hh.2
  simp only [enc, Bool.false_eq_true, if_false] at a1 a2
  rw [show (756 + (i * 16 + h)).toNat = (756 + 16 * i + h).toNat by omega] at a1
  obtain ⟨M1, b1, b2, ⟨b30, b31, b32, b33, b34, b35⟩, b4, b5⟩ := q_begin (r (756 + 16 * i + h).toNat) M
  have hR : FC r M1 0 0 0 := ⟨by decide, ⟨fun p hp => by rw [tb_0]; exact (b2 p hp).1, fun p hp => by rw [tb_0]; exact (b2 p hp).2⟩, ⟨by rw [pop_0]; exact b32, by rw [pop_0]; exact b33⟩, by rw [pop_0, b31]; rfl, ⟨by rw [b35]; rfl, by decide⟩, InnS_0, InnS_0⟩
  obtain ⟨M', i1, i3, i4, i5, i6⟩ := key 100000 M1 (by decide) (ST_kp hS b5 (by decide)) hR b34 (by rw [b30]; rfl) b4 (fun t ht => by omega)
  refine ⟨M', ?_, i3, Kp_tr b5 i4, by rw [i5 0 (by decide), b4], fun t ht => i6 t (by omega) ht⟩
  unfold f_X6_find
  rw [q_cell, zbS, if_pos (by omega), zltS, if_pos hh, zltS, show M (1 + 27) (i * 16 + h).toNat = _ from a1, show M (1 + 14) h.toNat = _ from a2, b1, zbS]
  exact i1

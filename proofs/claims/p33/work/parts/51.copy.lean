/-- the model's row with one stretch of it copied -/
def cpR (r : Row) (x c v : Nat) : Row := fun j => if c ≤ j ∧ j < c + v then r (x + (j - c)) else r j
theorem cpR_0 (r : Row) (x c : Nat) : cpR r x c 0 = r := by
  funext j
  unfold cpR
  rw [if_neg (by omega)]
theorem cpR_s {r : Row} {x c v : Nat} (hd : x + v < c ∨ c + v ≤ x + v) : cpR r x c (v + 1) = up (cpR r x c v) (c + v) (cpR r x c v (x + v)) := by
  funext j
  by_cases e : j = c + v
  · subst e
    rw [up_eq]
    unfold cpR
    rw [if_pos (by omega), if_neg (by omega)]
    congr 1
    omega
  · rw [up_ne e]
    unfold cpR
    by_cases c2 : c ≤ j ∧ j < c + v
    · rw [if_pos (by omega), if_pos c2]
    · rw [if_neg (by omega), if_neg c2]
/-! the class copies a state -/
def cln (o : Nat) : Nat := [3, 6, 4, 1, 8, 8, 8, 8, 8, 128, 0, 128, 128, 0, 16, 16, 16, 256, 1, 3, 3, 1, 6, 6, 6, 6, 6, 96].getD o 0
def Dn (k k1 : Nat) (S : List Nat) (M M' : Mem) : Prop := (∀ o, o ∈ S → ∀ p, p < cln o → M' (k + o) p = M (k1 + o) p) ∧ ∀ x, (∀ o, o ∈ S → x ≠ k + o) → M' x = M x
theorem q_row {M : Mem} {x y n : Nat} (hn : n ≤ 1000) : f_X9_copyRow x n y n M = some (0, cpM M x 0 y 0 n) := by
  unfold f_X9_copyRow
  have e : imin (n : Int) (n : Int) = n := by unfold imin; split <;> rfl
  rw [e, if_pos (by omega), if_pos (by omega), if_pos (by omega), zltS]
theorem cpM_ne {M : Mem} {x y z : Nat} {u v n : Int} (h : z ≠ y) : cpM M x u y v n z = M z := by unfold cpM; rw [if_neg h]
theorem Dn_row {k k1 m : Nat} {S : List Nat} {M M' : Mem} (h : Dn k k1 S M M') (hm : m ∉ S) (hs : m < 28 ∧ ∀ o, o ∈ S → o < 28) (hd : k + 28 ≤ k1 ∨ k1 + 28 ≤ k) : Dn k k1 (m :: S) M (cpM M' (k1 + m) 0 (k + m) 0 (cln m : Nat)) := by
  refine ⟨fun o ho p hp => ?_, fun x hx => ?_⟩
  · rcases List.mem_cons.mp ho with rfl | ho
    · have e1 : M' (k1 + o) = M (k1 + o) := h.2 _ (fun q hq => by have := hs.2 q hq; omega)
      unfold cpM
      rw [if_pos rfl, e1]
      unfold cpf
      rw [if_pos (by omega)]
      congr 1
      omega
    · have hne : o ≠ m := fun q => hm (q ▸ ho)
      rw [cpM_ne (by omega)]
      exact h.1 o ho p hp
  · rw [cpM_ne (hx m (List.mem_cons_self ..))]
    exact h.2 x (fun o ho => hx o (List.mem_cons_of_mem _ ho))
theorem Dn_obj {k k1 m : Nat} {S : List Nat} {M M' : Mem} (h : Dn k k1 S M M') (hl : cln m = 1) (hm : m ∉ S) (hs : m < 28 ∧ ∀ o, o ∈ S → o < 28) (hd : k + 28 ≤ k1 ∨ k1 + 28 ≤ k) : Dn k k1 (m :: S) M (wr M' (k + m) 0 (M' (k1 + m) 0)) := by
  refine ⟨fun o ho p hp => ?_, fun x hx => ?_⟩
  · rcases List.mem_cons.mp ho with rfl | ho
    · have e1 : M' (k1 + o) = M (k1 + o) := h.2 _ (fun q hq => by have := hs.2 q hq; omega)
      rw [hl] at hp
      obtain rfl : p = 0 := by omega
      rw [wr_eq, up_eq, e1]
    · have hne : o ≠ m := fun q => hm (q ▸ ho)
      rw [wr_ne (by omega)]
      exact h.1 o ho p hp
  · rw [wr_ne (hx m (List.mem_cons_self ..))]
    exact h.2 x (fun o ho => hx o (List.mem_cons_of_mem _ ho))
theorem Dn_first {k k1 : Nat} {M : Mem} (hd : k + 28 ≤ k1 ∨ k1 + 28 ≤ k) : Dn k k1 [0] M (wr (wr (wr M k 0 (M k1 0)) k 1 (wr M k 0 (M k1 0) k1 1)) k 2 (wr (wr M k 0 (M k1 0)) k 1 (wr M k 0 (M k1 0) k1 1) k1 2)) := by
  refine ⟨fun o ho p hp => ?_, fun x hx => ?_⟩
  · obtain rfl : o = 0 := by simpa using ho
    have hp3 : p < 3 := hp
    rw [wr_ne (M := wr M k 0 (M k1 0)) (a := k1) (by omega), wr_ne (M := M) (a := k1) (by omega)]
    rw [show k + 0 = k from rfl, show k1 + 0 = k1 from rfl, wr_eq, wr_eq, wr_eq]
    by_cases e2 : p = 2
    · subst e2; rw [up_eq]
    · rw [up_ne e2]
      by_cases e1 : p = 1
      · subst e1; rw [up_eq]
      · rw [up_ne e1]
        obtain rfl : p = 0 := by omega
        rw [up_eq]
  · have hne : x ≠ k := by simpa using hx 0 (by simp)
    rw [wr_ne hne, wr_ne hne, wr_ne hne]
set_option maxRecDepth 20000 in
theorem q_inn_l {k k1 : Nat} (hd : k + 28 ≤ k1 ∨ k1 + 28 ≤ k) {g : Nat → Int} (hg : ∀ p, p < 8 → g p = 0 ∨ g p = 1) : ∀ (d v F : Nat) (M : Mem), v + d = 8 → d < F → M (k1 + 8) = g → (∀ p, p < v → M (k + 8) p = g p) → ∃ M', f_X2_copyFrom_b65 (k + 3) (k1 + 3) F v M = some (0, M') ∧ (∀ p, p < 8 → M' (k + 8) p = g p) ∧ ∀ x, x ≠ k + 8 → M' x = M x := by
  intro d
  induction d with
  | zero =>
    intro v F M h1 h2 hM hv
    obtain ⟨F, rfl⟩ : ∃ k, F = k + 1 := ⟨F - 1, by omega⟩
    obtain rfl : v = 8 := by omega
    unfold f_X2_copyFrom_b65
    rw [if_pos (by omega), if_pos (by omega)]
    exact ⟨M, rfl, hv, fun _ _ => rfl⟩
  | succ d ih =>
    intro v F M h1 h2 hM hv
    obtain ⟨F, rfl⟩ : ∃ k, F = k + 1 := ⟨F - 1, by omega⟩
    unfold f_X2_copyFrom_b65
    have hb := hg v (by omega)
    have e1 : M (k1 + 3 + 5) (v : Int).toNat = g v := by rw [show k1 + 3 + 5 = k1 + 8 from rfl, hM]; rfl
    rw [if_pos (by omega), if_neg (by omega), if_pos (by omega), e1, if_pos hb, zltS, show k + 3 + 5 = k + 8 from rfl, show (v : Int).toNat = v from rfl]
    obtain ⟨M', i1, i2, i3⟩ := ih (v + 1) F (wr M (k + 8) v (g v)) (by omega) (by omega) (by rw [wr_ne (by omega), hM]) (fun p hp => by
      rw [wr_eq]
      by_cases e : p = v
      · subst e; rw [up_eq]
      · rw [up_ne e]; exact hv p (by omega))
    push_cast at i1
    exact ⟨M', i1, i2, fun x hx => by rw [i3 x hx, wr_ne hx]⟩
theorem kap_s : ∀ j, j < 871 → (kap j).all (fun q => decide (q.1 ∈ [27, 26, 25, 24, 23, 22, 21, 20, 19, 18, 17, 16, 15, 14, 12, 11, 8, 9, 7, 6, 5, 4, 3, 2, 1, 0] ∧ q.2.1 < cln q.1)) = true := by decide +kernel
theorem q_copy {B : Int} {k k1 : Nat} {M : Mem} {r : Row} (hS : ST M k1 r) (W : WF1 B r) (hd : k + 28 ≤ k1 ∨ k1 + 28 ≤ k) : ∃ M', f_X7_copyFrom k k1 M = some (0, M') ∧ ST M' k r ∧ Kp k 28 M M' := by
  have hg : ∀ p, p < 8 → M (k1 + 8) p = 0 ∨ M (k1 + 8) p = 1 := by
    intro p hp
    have h1 := hS.1.inn (p := (p : Int)) (by omega) (by omega)
    have h2 := WF1_inn W (p := (p : Int)) (by omega) (by omega)
    simp only [enc, Bool.false_eq_true, if_false] at h1
    rw [show (p : Int).toNat = p from rfl] at h1
    omega
  unfold f_X7_copyFrom f_X2_copyFrom f_X8_copyFrom f_X0_copyFrom f_X3_copyFrom f_X4_copyFrom
  rw [zltS, zltS, zltS]
  have D0 := Dn_first (M := M) hd
  revert D0
  generalize wr (wr (wr M k 0 (M k1 0)) k 1 (wr M k 0 (M k1 0) k1 1)) k 2 (wr (wr M k 0 (M k1 0)) k 1 (wr M k 0 (M k1 0) k1 1) k1 2) = M0
  intro D0
  simp only [Nat.add_assoc, Nat.reduceAdd]
  rw [q_row (n := 6) (by decide), zbS]
  have D1 := Dn_row (m := 1) D0 (by decide) (by decide) hd
  rw [show cln 1 = 6 from rfl] at D1
  revert D1
  generalize cpM M0 (k1 + 1) 0 (k + 1) 0 ((6 : Nat) : Int) = N1
  intro D1
  rw [q_row (n := 4) (by decide), zbS]
  have D2 := Dn_row (m := 2) D1 (by decide) (by decide) hd
  rw [show cln 2 = 4 from rfl] at D2
  revert D2
  generalize cpM N1 (k1 + 2) 0 (k + 2) 0 ((4 : Nat) : Int) = N2
  intro D2
  rw [zltS]
  have D3 := Dn_obj (m := 3) D2 rfl (by decide) (by decide) hd
  revert D3
  generalize wr N2 (k + 3) 0 (N2 (k1 + 3) 0) = N3
  intro D3
  rw [q_row (n := 8) (by decide), zbS]
  have D4 := Dn_row (m := 4) D3 (by decide) (by decide) hd
  rw [show cln 4 = 8 from rfl] at D4
  revert D4
  generalize cpM N3 (k1 + 4) 0 (k + 4) 0 ((8 : Nat) : Int) = N4
  intro D4
  rw [q_row (n := 8) (by decide), zbS]
  have D5 := Dn_row (m := 5) D4 (by decide) (by decide) hd
  rw [show cln 5 = 8 from rfl] at D5
  revert D5
  generalize cpM N4 (k1 + 5) 0 (k + 5) 0 ((8 : Nat) : Int) = N5
  intro D5
  rw [q_row (n := 8) (by decide), zbS]
  have D6 := Dn_row (m := 6) D5 (by decide) (by decide) hd
  rw [show cln 6 = 8 from rfl] at D6
  revert D6
  generalize cpM N5 (k1 + 6) 0 (k + 6) 0 ((8 : Nat) : Int) = N6
  intro D6
  rw [q_row (n := 8) (by decide), zbS]
  have D7 := Dn_row (m := 7) D6 (by decide) (by decide) hd
  rw [show cln 7 = 8 from rfl] at D7
  revert D7
  generalize cpM N6 (k1 + 7) 0 (k + 7) 0 ((8 : Nat) : Int) = N7
  intro D7
  rw [q_row (n := 128) (by decide), zbS]
  have D8 := Dn_row (m := 9) D7 (by decide) (by decide) hd
  rw [show cln 9 = 128 from rfl] at D8
  revert D8
  generalize cpM N7 (k1 + 9) 0 (k + 9) 0 ((128 : Nat) : Int) = N8
  intro D8
  have u9 : N8 (k1 + 8) = M (k1 + 8) := D8.2 _ (fun o ho => by
    have h28 : ∀ o, o ∈ [9, 7, 6, 5, 4, 3, 2, 1, 0] → o < 28 := by decide
    have := h28 o ho
    omega)
  obtain ⟨N9, i1, i2, i3⟩ := q_inn_l hd hg 8 0 100000 N8 rfl (by decide) u9 (fun p hp => absurd hp (by omega))
  rw [show ((0 : Nat) : Int) = 0 from rfl] at i1
  rw [i1, zbS]
  have D9 : Dn k k1 [8, 9, 7, 6, 5, 4, 3, 2, 1, 0] M N9 := by
    refine ⟨fun o ho p hp => ?_, fun x hx => ?_⟩
    · rcases List.mem_cons.mp ho with rfl | ho
      · exact i2 p hp
      · rw [i3 _ (fun q => by
          have h8 : ∀ o, o ∈ [9, 7, 6, 5, 4, 3, 2, 1, 0] → o ≠ 8 := by decide
          have := h8 o ho
          omega)]
        exact D8.1 o ho p hp
    · rw [i3 x (hx 8 (List.mem_cons_self ..))]
      exact D8.2 x (fun o ho => hx o (List.mem_cons_of_mem _ ho))
  rw [q_row (n := 128) (by decide), zbS]
  have D10 := Dn_row (m := 11) D9 (by decide) (by decide) hd
  rw [show cln 11 = 128 from rfl] at D10
  revert D10
  generalize cpM N9 (k1 + 11) 0 (k + 11) 0 ((128 : Nat) : Int) = N10
  intro D10
  rw [q_row (n := 128) (by decide), zbS]
  have D11 := Dn_row (m := 12) D10 (by decide) (by decide) hd
  rw [show cln 12 = 128 from rfl] at D11
  revert D11
  generalize cpM N10 (k1 + 12) 0 (k + 12) 0 ((128 : Nat) : Int) = N11
  intro D11
  rw [zbS]
  rw [q_row (n := 16) (by decide), zbS]
  have D12 := Dn_row (m := 14) D11 (by decide) (by decide) hd
  rw [show cln 14 = 16 from rfl] at D12
  revert D12
  generalize cpM N11 (k1 + 14) 0 (k + 14) 0 ((16 : Nat) : Int) = N12
  intro D12
  rw [q_row (n := 16) (by decide), zbS]
  have D13 := Dn_row (m := 15) D12 (by decide) (by decide) hd
  rw [show cln 15 = 16 from rfl] at D13
  revert D13
  generalize cpM N12 (k1 + 15) 0 (k + 15) 0 ((16 : Nat) : Int) = N13
  intro D13
  rw [q_row (n := 16) (by decide), zbS]
  have D14 := Dn_row (m := 16) D13 (by decide) (by decide) hd
  rw [show cln 16 = 16 from rfl] at D14
  revert D14
  generalize cpM N13 (k1 + 16) 0 (k + 16) 0 ((16 : Nat) : Int) = N14
  intro D14
  rw [q_row (n := 256) (by decide), zbS]
  have D15 := Dn_row (m := 17) D14 (by decide) (by decide) hd
  rw [show cln 17 = 256 from rfl] at D15
  revert D15
  generalize cpM N14 (k1 + 17) 0 (k + 17) 0 ((256 : Nat) : Int) = N15
  intro D15
  rw [zbS]
  rw [zltS]
  have D16 := Dn_obj (m := 18) D15 rfl (by decide) (by decide) hd
  revert D16
  generalize wr N15 (k + 18) 0 (N15 (k1 + 18) 0) = N16
  intro D16
  rw [q_row (n := 3) (by decide), zbS]
  have D17 := Dn_row (m := 19) D16 (by decide) (by decide) hd
  rw [show cln 19 = 3 from rfl] at D17
  revert D17
  generalize cpM N16 (k1 + 19) 0 (k + 19) 0 ((3 : Nat) : Int) = N17
  intro D17
  rw [q_row (n := 3) (by decide), zbS]
  have D18 := Dn_row (m := 20) D17 (by decide) (by decide) hd
  rw [show cln 20 = 3 from rfl] at D18
  revert D18
  generalize cpM N17 (k1 + 20) 0 (k + 20) 0 ((3 : Nat) : Int) = N18
  intro D18
  rw [zbS]
  rw [zltS]
  have D19 := Dn_obj (m := 21) D18 rfl (by decide) (by decide) hd
  revert D19
  generalize wr N18 (k + 21) 0 (N18 (k1 + 21) 0) = N19
  intro D19
  rw [q_row (n := 6) (by decide), zbS]
  have D20 := Dn_row (m := 22) D19 (by decide) (by decide) hd
  rw [show cln 22 = 6 from rfl] at D20
  revert D20
  generalize cpM N19 (k1 + 22) 0 (k + 22) 0 ((6 : Nat) : Int) = N20
  intro D20
  rw [q_row (n := 6) (by decide), zbS]
  have D21 := Dn_row (m := 23) D20 (by decide) (by decide) hd
  rw [show cln 23 = 6 from rfl] at D21
  revert D21
  generalize cpM N20 (k1 + 23) 0 (k + 23) 0 ((6 : Nat) : Int) = N21
  intro D21
  rw [q_row (n := 6) (by decide), zbS]
  have D22 := Dn_row (m := 24) D21 (by decide) (by decide) hd
  rw [show cln 24 = 6 from rfl] at D22
  revert D22
  generalize cpM N21 (k1 + 24) 0 (k + 24) 0 ((6 : Nat) : Int) = N22
  intro D22
  rw [q_row (n := 6) (by decide), zbS]
  have D23 := Dn_row (m := 25) D22 (by decide) (by decide) hd
  rw [show cln 25 = 6 from rfl] at D23
  revert D23
  generalize cpM N22 (k1 + 25) 0 (k + 25) 0 ((6 : Nat) : Int) = N23
  intro D23
  rw [q_row (n := 6) (by decide), zbS]
  have D24 := Dn_row (m := 26) D23 (by decide) (by decide) hd
  rw [show cln 26 = 6 from rfl] at D24
  revert D24
  generalize cpM N23 (k1 + 26) 0 (k + 26) 0 ((6 : Nat) : Int) = N24
  intro D24
  rw [q_row (n := 96) (by decide), zbS]
  have D25 := Dn_row (m := 27) D24 (by decide) (by decide) hd
  rw [show cln 27 = 96 from rfl] at D25
  revert D25
  generalize cpM N24 (k1 + 27) 0 (k + 27) 0 ((96 : Nat) : Int) = N25
  intro D25
  rw [zbS]
  refine ⟨_, rfl, ⟨fun j hj o p d hk => ?_, fun p p0 p1 => ?_⟩, fun x hx => ?_⟩
  · have h1 := kap_s j hj
    rw [hk, Option.all_some, decide_eq_true_iff] at h1
    rw [D25.1 o h1.1 p h1.2]
    exact hS.1 j hj o p d hk
  · rw [D25.1 6 (by decide) p.toNat (show p.toNat < 8 by omega)]
    exact hS.2 p p0 p1
  · refine D25.2 x (fun o ho => ?_)
    have h28 : ∀ o, o ∈ [27, 26, 25, 24, 23, 22, 21, 20, 19, 18, 17, 16, 15, 14, 12, 11, 8, 9, 7, 6, 5, 4, 3, 2, 1, 0] → o < 28 := by decide
    have := h28 o ho
    omega

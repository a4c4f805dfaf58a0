/-! the way to a shard: both sides at once -/
def nrk (rk : Int → Int → Nat) (h p : Int) : Int := sumN 8 fun x => if rk h (x : Int) < rk h p then 1 else 0
theorem nrk_b (rk : Int → Int → Nat) (h : Int) {p : Int} (hp : 0 ≤ p ∧ p < 8) : 0 ≤ nrk rk h p ∧ nrk rk h p ≤ 7 := by
  refine ⟨sumN_nn (fun k _ => by split <;> omega), ?_⟩
  have h1 : sumN 8 (fun x : Nat => if rk h (x : Int) < rk h p then (1 : Int) else 0) < sumN 8 (fun _ => 1) := by
    refine sumN_lt (i := p.toNat) (fun i hi => by split <;> omega) (by omega) ?_
    have e : ((p.toNat : Nat) : Int) = p := by omega
    rw [e, if_neg (by omega)]
    decide
  have h2 : sumN 8 (fun _ => (1 : Int)) = 8 := rfl
  unfold nrk
  omega
theorem nrk_lt {rk : Int → Int → Nat} {h p q : Int} (hp : 0 ≤ p ∧ p < 8) (hl : rk h p < rk h q) : nrk rk h p < nrk rk h q := by
  refine sumN_lt (i := p.toNat) (fun i hi => ?_) (by omega) ?_
  · by_cases c : rk h (i : Int) < rk h p
    · rw [if_pos c, if_pos (by omega)]; exact Int.le_refl _
    · rw [if_neg c]; split <;> omega
  · have e : ((p.toNat : Nat) : Int) = p := by omega
    rw [e, if_neg (by omega), if_pos hl]
    decide
def FR (M Q : Mem) (A S k : Nat) : Prop :=
  (A < 256 ∧ S < 256) ∧ (Q 215 9 = A ∧ Q 215 10 = S) ∧ ((∀ p, p < 8 → M 208 p = tb A p) ∧ ∀ p, p < 8 → M 209 p = tb S p) ∧ (M 206 2 = pop A ∧ M 206 3 = pop S) ∧ (Q 215 7 = M 206 0 ∧ Q 215 8 = M 206 1 ∧ Q 215 11 = M 206 4) ∧ (M 206 4 = 0 ∨ M 206 4 = 1) ∧ (0 ≤ M 206 0 ∧ M 206 0 ≤ 200) ∧ (Q 215 6 = (k : Int) + 1 ∧ M 206 5 = (k : Int) + 1 ∧ k ≤ 136) ∧ ∀ i, i ≤ k → Q 218 i = M 207 i
def Kq (Q Q' : Mem) : Prop := (∀ x, x ≠ 215 → x ≠ 218 → Q' x = Q x) ∧ ∀ j, j < 6 ∨ 12 ≤ j → Q' 215 j = Q 215 j
theorem Kq_id {Q : Mem} : Kq Q Q := ⟨fun _ _ _ => rfl, fun _ _ => rfl⟩
theorem Kq_tr {Q Q1 Q2 : Mem} (h : Kq Q Q1) (h2 : Kq Q1 Q2) : Kq Q Q2 := ⟨fun x hx hy => by rw [h2.1 x hx hy, h.1 x hx hy], fun j hj => by rw [h2.2 j hj, h.2 j hj]⟩
theorem Kq_5 {Q Q1 : Mem} (h : Kq Q Q1) {j : Nat} {v : Int} (hj : 6 ≤ j ∧ j < 12) : Kq Q (wr Q1 215 j v) :=
  ⟨fun x hx hy => by rw [wr_ne hx, h.1 x hx hy], fun i hi => by rw [wr_eq, up_ne (by omega), h.2 i hi]⟩
theorem Kq_8 {Q Q1 : Mem} (h : Kq Q Q1) {j : Nat} {v : Int} : Kq Q (wr Q1 218 j v) :=
  ⟨fun x hx hy => by rw [wr_ne hy, h.1 x hx hy], fun i hi => by rw [wr_ne (by decide), h.2 i hi]⟩
/-- the class puts a place; the model comes to it -/
def putM (M : Mem) (k : Nat) (t : Int) : Mem := wr (wr M 207 (k + 1) t) 206 5 ((k : Int) + 2)
def comeQ (Q : Mem) (k : Nat) (t : Int) : Mem := wr (wr Q 218 (k + 1) t) 215 6 ((k : Int) + 2)
theorem q_put {M : Mem} {k : Nat} (hk : k ≤ 135) (h5 : M 206 5 = (k : Int) + 1) (t : Int) : f_X6_put t M = some (0, putM M k t) := by
  unfold f_X6_put f_X6_put_b30 putM
  rw [h5, if_pos (by omega), if_neg (by omega), if_pos (by omega), zltS, zltS, wr_ne (by decide), h5, show ((k : Int) + 1).toNat = k + 1 by omega, show (k : Int) + 1 + 1 = (k : Int) + 2 by omega]
/-- what a step changes before it is put -/
theorem FR_put {M Q : Mem} {A S k : Nat} (h : FR M Q A S k) (hk : k ≤ 135) (t : Int) : FR (putM M k t) (comeQ Q k t) A S (k + 1) := by
  obtain ⟨h1, ⟨h2, h2'⟩, ⟨h3, h3'⟩, ⟨h4, h4'⟩, ⟨h5, h5', h5''⟩, h6, h7, ⟨h8, h8', h8''⟩, h9⟩ := h
  unfold putM comeQ
  have m0 : ∀ j, j ≠ 5 → wr (wr M 207 (k + 1) t) 206 5 ((k : Int) + 2) 206 j = M 206 j := fun j hj => by rw [wr_eq, up_ne hj, wr_ne (by decide)]
  have q0 : ∀ j, j ≠ 6 → wr (wr Q 218 (k + 1) t) 215 6 ((k : Int) + 2) 215 j = Q 215 j := fun j hj => by rw [wr_eq, up_ne hj, wr_ne (by decide)]
  refine ⟨h1, ⟨?_, ?_⟩, ⟨fun p hp => ?_, fun p hp => ?_⟩, ⟨?_, ?_⟩, ⟨?_, ?_, ?_⟩, ?_, ?_, ⟨?_, ?_, by omega⟩, fun i hi => ?_⟩
  · rw [q0 9 (by decide)]; exact h2
  · rw [q0 10 (by decide)]; exact h2'
  · rw [wr_ne (by decide), wr_ne (by decide)]; exact h3 p hp
  · rw [wr_ne (by decide), wr_ne (by decide)]; exact h3' p hp
  · rw [m0 2 (by decide)]; exact h4
  · rw [m0 3 (by decide)]; exact h4'
  · rw [q0 7 (by decide), m0 0 (by decide)]; exact h5
  · rw [q0 8 (by decide), m0 1 (by decide)]; exact h5'
  · rw [q0 11 (by decide), m0 4 (by decide)]; exact h5''
  · rw [m0 4 (by decide)]; exact h6
  · rw [m0 0 (by decide)]; exact h7
  · rw [wr_eq, up_eq]; omega
  · rw [wr_eq, up_eq]; omega
  · rw [wr_ne (by decide), wr_eq, wr_ne (by decide), wr_eq]
    by_cases e : i = k + 1
    · rw [e, up_eq, up_eq]
    · rw [up_ne e, up_ne e]; exact h9 i (by omega)
/-- where a step leads: by the track, by the inn's word, by the next inn told, else a cry -/
abbrev Trk (r : Row) (h p : Int) : Prop := 0 < r (160 + 16 * p + h).toNat
abbrev Fwd (r : Row) (h p : Int) (A : Nat) : Prop := tb A p.toNat = 0 ∧ r (32 + 16 * p + h).toNat ≠ 0 ∧ r (32 + 16 * p + h).toNat - 1 ≠ p
theorem q_next_t {B : Int} {M : Mem} {r : Row} (hS : ST0 M 1 r) (W : WF B r) {h p : Int} (hh : 0 ≤ h ∧ h < 16) (hp : 0 ≤ p ∧ p < 8) (ht : Trk r h p) : f_X6_next 1 h p M = some (r (160 + 16 * p + h).toNat - 1, wr (wr M 206 0 (M 206 0 + 1)) 206 1 (M 206 1 + 1)) := by
  have hb := WF1_trk8 W.1 hp.1 hp.2 h hh.1 hh.2
  have a1 := hS.lead (p := p * 16 + h) (by omega) (by omega)
  rw [show (160 + (p * 16 + h)).toNat = (160 + 16 * p + h).toNat by omega] at a1
  simp only [enc, if_true] at a1
  rw [if_neg (by omega)] at a1
  unfold f_X6_next
  rw [q_isAt (b := 1) rfl hS hp hh hb, zbS, bitR, bit0, if_pos ht, zltS, zltS, q_cell, zbS, if_pos (by omega)]
  rw [show 1 + 11 = 1 + 11 from rfl, wr_ne (by decide), wr_ne (by decide), a1]
  rw [wr_eq, up_ne (by decide)]
theorem q_next_o {B : Int} {M : Mem} {r : Row} (hS : ST0 M 1 r) (W : WF B r) {A : Nat} (h208 : ∀ x, x < 8 → M 208 x = tb A x) {h p : Int} (hh : 0 ≤ h ∧ h < 16) (hp : 0 ≤ p ∧ p < 8) (ht : ¬ Trk r h p) : f_X6_next 1 h p M = if Fwd r h p A then some (r (32 + 16 * p + h).toNat - 1, wr (wr (wr M 206 0 (M 206 0 + 1)) 206 2 (M 206 2 + 1)) 208 p.toNat 1) else f_X6_next_b113 1 h p M := by
  have hb := WF1_trk8 W.1 hp.1 hp.2 h hh.1 hh.2
  have hpo := WF1_post W.1 hp.1 hp.2 hh.1 hh.2
  have hn := WF1_n W.1
  have a1 := hS.post (p := p * 16 + h) (by omega) (by omega)
  rw [show (32 + (p * 16 + h)).toNat = (32 + 16 * p + h).toNat by omega] at a1
  simp only [enc, if_true] at a1
  have a2 := h208 p.toNat (by omega)
  have t1 := tb_b A p.toNat
  unfold f_X6_next
  rw [q_isAt (b := 1) rfl hS hp hh hb, zbS, bitR, bit0, if_neg ht, q_cell, zbS, if_pos (by omega), zltS, if_pos hp, a2, if_pos (by omega)]
  rw [show M (1 + 9) (p * 16 + h).toNat = _ from a1]
  by_cases c1 : tb A p.toNat = 0
  · rw [if_pos c1]
    by_cases c2 : r (32 + 16 * p + h).toNat = 0
    · rw [if_pos c2, if_pos (by omega), if_pos rfl, if_neg (fun q => q.2.1 c2)]
    · rw [if_neg c2, if_pos (by omega), if_neg (by omega), if_pos (by omega)]
      by_cases c3 : r (32 + 16 * p + h).toNat - 1 = p
      · rw [if_pos c3, if_neg (fun q => q.2.2 c3)]
      · rw [if_neg c3, if_pos ⟨c1, c2, c3⟩, zltS, zltS, zltS, wr_eq, up_ne (by decide)]
  · rw [if_neg c1, if_neg (fun q => c1 q.1)]
theorem q_b113 {B : Int} {M : Mem} {r : Row} (hS : ST0 M 1 r) (W : WF B r) {A S : Nat} (h208 : ∀ x, x < 8 → M 208 x = tb A x) (h209 : ∀ x, x < 8 → M 209 x = tb S x) {N : Nat} (hN : r 863 = N) {h p : Int} (hh : 0 ≤ h ∧ h < 16) (hp : 0 ≤ p ∧ p < 8) : f_X6_next_b113 1 h p M = if ninF r p (A ||| S) N = -5 then some (r (416 + h).toNat, wr (wr M 206 0 (M 206 0 + N)) 206 4 1) else some (ninF r p (A ||| S) N, wr (wr (wr M 206 0 (M 206 0 + 1)) 206 3 (M 206 3 + 1)) 209 (ninF r p (A ||| S) N).toNat 1) := by
  have hn := WF1_n W.1
  have hb := ninF_b r p (A ||| S) N
  have a1 := hS.at hh.1 hh.2
  have a2 := hS.np
  simp only [enc, Bool.false_eq_true, if_false] at a1
  unfold f_X6_next_b113
  rw [q_nin (b := 1) rfl hS W.1 hp h208 h209 hN (by omega), zbS, if_pos (by omega)]
  by_cases c : ninF r p (A ||| S) N = -5
  · rw [if_pos c, if_pos c, zltS, zltS, if_pos hh, wr_ne (by decide), wr_ne (by decide), a1, a2, hN]
  · rw [if_neg c, if_neg c, zltS, zltS, if_pos (by omega), zltS, wr_eq, up_ne (by decide)]

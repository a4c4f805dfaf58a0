theorem bef_tr {r : Row} {x y z : Int} (h1 : bef r x y) (h2 : bef r y z) : bef r x z := by
  unfold bef at h1 h2 ⊢
  omega
theorem bef_tot {r : Row} {x y : Int} (h : ¬ bef r x y) (hx : 0 ≤ x) (hy : 0 ≤ y) (hne : x ≠ y) : bef r y x := by
  unfold bef at h ⊢
  omega
theorem bef_ir {r : Row} {x : Int} : ¬ bef r x x := by
  unfold bef
  omega
theorem sumN_le {n : Nat} {f g : Nat → Int} (h : ∀ k, k < n → f k ≤ g k) : sumN n f ≤ sumN n g := by
  induction n with
  | zero => exact Int.le_refl _
  | succ n ih =>
    rw [sumN_succ, sumN_succ]
    have h1 := ih (fun k hk => h k (by omega))
    have h2 := h n (by omega)
    omega
theorem sumN_lt {n i : Nat} {f g : Nat → Int} (h : ∀ k, k < n → f k ≤ g k) (hi : i < n) (hl : f i < g i) : sumN n f < sumN n g := by
  induction n with
  | zero => omega
  | succ n ih =>
    rw [sumN_succ, sumN_succ]
    have h1 := sumN_le (n := n) (fun k hk => h k (by omega))
    have h2 := h n (by omega)
    by_cases e : i = n
    · subst e; omega
    · have h3 := ih (fun k hk => h k (by omega)) (by omega)
      omega
theorem ordF_lt {r : Row} {k h : Int} (hk : 0 ≤ k ∧ k < 16) (hb : bef r k h) : ordF r k 16 < ordF r h 16 := by
  refine sumN_lt (i := k.toNat) (fun i hi => ?_) (by omega) ?_
  · by_cases c : bef r i k
    · rw [if_pos c, if_pos (bef_tr c hb)]; exact Int.le_refl _
    · rw [if_neg c]; split <;> omega
  · have e : ((k.toNat : Nat) : Int) = k := by omega
    rw [e, if_neg bef_ir, if_pos hb]
    decide
theorem ordF_b {r : Row} {h : Int} (hh : 0 ≤ h ∧ h < 16) : 0 ≤ ordF r h 16 ∧ ordF r h 16 ≤ 15 := by
  refine ⟨sumN_nn (fun k _ => by split <;> omega), ?_⟩
  have h1 : sumN 16 (fun k : Nat => if bef r (k : Int) h then (1 : Int) else 0) < sumN 16 (fun _ => 1) := by
    refine sumN_lt (i := h.toNat) (fun i hi => by split <;> omega) (by omega) ?_
    have e : ((h.toNat : Nat) : Int) = h := by omega
    rw [e, if_neg bef_ir]
    decide
  have h2 : sumN 16 (fun _ => (1 : Int)) = 16 := rfl
  unfold ordF
  omega
theorem ordF_inj {r : Row} {x y : Int} (hx : 0 ≤ x ∧ x < 16) (hy : 0 ≤ y ∧ y < 16) (h : ordF r x 16 = ordF r y 16) : x = y := by
  by_cases e : x = y
  · exact e
  · exfalso
    by_cases b : bef r x y
    · have := ordF_lt hx b; omega
    · have := ordF_lt hy (bef_tot b hx.1 hy.1 e); omega
def Srt (r : Row) (o : Nat → Int) (n : Nat) : Prop := (∀ i, i < n → 0 ≤ o i ∧ o i < n) ∧ ∀ i j, i < j → j < n → bef r (o i) (o j)
theorem ord_is {r : Row} {o : Nat → Int} (h : Srt r o 16) {i : Nat} (hi : i < 16) : ordF r (o i) 16 = i := by
  have up1 : ∀ i : Nat, i < 16 → (i : Int) ≤ ordF r (o i) 16 := by
    intro i
    induction i with
    | zero => intro h0; exact (ordF_b (h.1 0 h0)).1
    | succ i ih =>
      intro h0
      have h1 := ih (by omega)
      have h2 := ordF_lt (h.1 i (by omega)) (h.2 i (i + 1) (by omega) h0)
      omega
  have dn : ∀ d i : Nat, i + d = 15 → ordF r (o i) 16 ≤ (i : Int) := by
    intro d
    induction d with
    | zero =>
      intro i h0
      have h1 := (ordF_b (r := r) (h.1 i (by omega))).2
      omega
    | succ d ih =>
      intro i h0
      have h1 := ih (i + 1) (by omega)
      have h2 := ordF_lt (h.1 i (by omega)) (h.2 i (i + 1) (by omega) (by omega))
      omega
  have h1 := up1 i hi
  have h2 := dn (15 - i) i (by omega)
  omega
theorem Srt_c {r r' : Row} {o : Nat → Int} {n : Nat} (hn : n ≤ 16) (h : Srt r o n) (he : ∀ j : Nat, 432 ≤ j → j < 448 → r' j = r j) : Srt r' o n := by
  refine ⟨h.1, fun i j hi hj => ?_⟩
  have h1 := h.1 i (by omega)
  have h2 := h.1 j (by omega)
  have h3 := h.2 i j hi hj
  unfold bef at h3 ⊢
  rw [he _ (by omega) (by omega), he _ (by omega) (by omega)]
  exact h3
theorem ST_28 {M M' : Mem} {b : Nat} {r : Row} (h : ST M b r) (hK : Kp (b + 28) 1 M M') : ST M' b r :=
  ⟨ST0_to h.1 (fun o ho _ => hK _ (by omega)) (fun _ _ => rfl), fun p p0 p1 => by rw [hK _ (by omega)]; exact h.2 p p0 p1⟩
/-- the row o with a gap at t, before v is put there -/
def Gap (r : Row) (o : Nat → Int) (v t : Nat) : Prop := (∀ i, i ≤ v → i ≠ t → 0 ≤ o i ∧ o i < v) ∧ (∀ i j, i < j → j ≤ v → i ≠ t → j ≠ t → bef r (o i) (o j)) ∧ ∀ i, t < i → i ≤ v → bef r v (o i)
theorem Gap_put {r : Row} {o : Nat → Int} {v t : Nat} (ht : t ≤ v) (h : Gap r o v t) (hc : 0 < t → ¬ bef r v (o (t - 1))) : Srt r (up o t v) (v + 1) := by
  obtain ⟨g1, g2, g3⟩ := h
  refine ⟨fun i hi => ?_, fun i j hi hj => ?_⟩
  · by_cases e : i = t
    · subst e; rw [up_eq]; omega
    · rw [up_ne e]
      have := g1 i (by omega) e
      omega
  · by_cases e : i = t
    · subst e
      rw [up_eq, up_ne (by omega)]
      exact g3 j hi (by omega)
    · rw [up_ne e]
      by_cases e2 : j = t
      · subst e2
        rw [up_eq]
        have h1 := g1 (j - 1) (by omega) (by omega)
        have h2 := bef_tot (hc (by omega)) (by omega) h1.1 (by omega)
        by_cases e3 : i = j - 1
        · rw [e3]; exact h2
        · exact bef_tr (g2 i (j - 1) (by omega) (by omega) e (by omega)) h2
      · rw [up_ne e2]
        exact g2 i j hi (by omega) e e2
theorem Gap_sh {r : Row} {o : Nat → Int} {v t : Nat} (ht : t + 1 ≤ v) (h : Gap r o v (t + 1)) (hc : bef r v (o t)) : Gap r (up o (t + 1) (o t)) v t := by
  obtain ⟨g1, g2, g3⟩ := h
  refine ⟨fun i hi hne => ?_, fun i j hi hj h1 h2 => ?_, fun i hi hj => ?_⟩
  · by_cases e : i = t + 1
    · subst e; rw [up_eq]; exact g1 t (by omega) (by omega)
    · rw [up_ne e]; exact g1 i hi e
  · by_cases e : i = t + 1
    · subst e
      rw [up_eq, up_ne (by omega)]
      exact g2 t j (by omega) hj (by omega) (by omega)
    · rw [up_ne e]
      by_cases e2 : j = t + 1
      · subst e2
        rw [up_eq]
        exact g2 i t (by omega) (by omega) e (by omega)
      · rw [up_ne e2]
        exact g2 i j hi hj e e2
  · by_cases e : i = t + 1
    · subst e; rw [up_eq]; exact hc
    · rw [up_ne e]; exact g3 i (by omega) hj
set_option maxRecDepth 20000 in
theorem q_sort_i {B : Int} {b : Nat} {r : Row} (W : WF1 B r) {g2 : Int → Mem → Option (Int × Mem)} {v : Nat} (hv : v < 16) : ∀ (t F : Nat) (M : Mem), t ≤ v → t < F → ST M b r → Gap r (M (b + 28)) v t → ∃ M', f_X0_sortByHeat_b10 g2 (b + 13) (b + 28) 16 F v t M = g2 ((v : Int) + 1) M' ∧ Srt r (M' (b + 28)) (v + 1) ∧ Kp (b + 28) 1 M M' := by
  intro t
  induction t with
  | zero =>
    intro F M h1 h2 hS hG
    obtain ⟨F, rfl⟩ : ∃ k, F = k + 1 := ⟨F - 1, by omega⟩
    unfold f_X0_sortByHeat_b10 f_X0_sortByHeat_b41
    rw [if_pos (by omega), if_pos (by omega), if_pos (by omega), zltS]
    refine ⟨_, rfl, ?_, Kp_wr Kp_id (by omega)⟩
    rw [wr_eq, show ((0 : Nat) : Int).toNat = 0 from rfl]
    exact Gap_put (by omega) hG (fun q => by omega)
  | succ t ih =>
    intro F M h1 h2 hS hG
    obtain ⟨F, rfl⟩ : ∃ k, F = k + 1 := ⟨F - 1, by omega⟩
    have hm := hG.1 t (by omega) (by omega)
    unfold f_X0_sortByHeat_b10 f_X0_sortByHeat_b41
    rw [if_pos (by omega), if_neg (by omega), if_pos (by omega)]
    rw [show (((t + 1 : Nat) : Int) - 1).toNat = t by omega, show ((t + 1 : Nat) : Int).toNat = t + 1 by omega]
    rw [q_before rfl hS.1 W (by omega) (by omega), zbS, bitR, bit0]
    by_cases c : bef r v (M (b + 28) t)
    · rw [if_pos c, if_pos (by omega), zltS]
      rw [show ((t + 1 : Nat) : Int) + (-1) = ((t : Nat) : Int) by omega]
      have hK : Kp (b + 28) 1 M (wr M (b + 28) (t + 1) (M (b + 28) t)) := Kp_wr Kp_id (by omega)
      obtain ⟨M', e1, e2, e3⟩ := ih F _ (by omega) (by omega) (ST_28 hS hK) (by rw [wr_eq]; exact Gap_sh h1 hG c)
      exact ⟨M', e1, e2, Kp_tr hK e3⟩
    · rw [if_neg c, if_pos (by omega), zltS]
      refine ⟨_, rfl, ?_, Kp_wr Kp_id (by omega)⟩
      rw [wr_eq]
      exact Gap_put h1 hG (fun _ => c)
set_option maxRecDepth 20000 in
theorem q_sort_l {B : Int} {b : Nat} {r : Row} (W : WF1 B r) : ∀ (d v F : Nat) (M : Mem), v + d = 16 → d < F → ST M b r → Srt r (M (b + 28)) v → ∃ M', f_X0_sortByHeat_b2 (b + 13) (b + 28) 16 F v M = some (0, M') ∧ Srt r (M' (b + 28)) 16 ∧ Kp (b + 28) 1 M M' := by
  intro d
  induction d with
  | zero =>
    intro v F M h1 h2 hS hG
    obtain ⟨F, rfl⟩ : ∃ k, F = k + 1 := ⟨F - 1, by omega⟩
    obtain rfl : v = 16 := by omega
    unfold f_X0_sortByHeat_b2
    rw [if_pos (by omega), if_pos (by omega)]
    exact ⟨M, rfl, hG, Kp_id⟩
  | succ d ih =>
    intro v F M h1 h2 hS hG
    obtain ⟨F, rfl⟩ : ∃ k, F = k + 1 := ⟨F - 1, by omega⟩
    unfold f_X0_sortByHeat_b2
    rw [if_pos (by omega), if_neg (by omega)]
    obtain ⟨M1, e1, e2, e3⟩ := q_sort_i W (g2 := f_X0_sortByHeat_b2 (b + 13) (b + 28) 16 F) (by omega) v 100000 M (by omega) (by omega) hS ⟨fun i hi hne => hG.1 i (by omega), fun i j hi hj h3 h4 => hG.2 i j hi (by omega), fun i hi hj => by omega⟩
    rw [e1]
    obtain ⟨M', i1, i2, i3⟩ := ih (v + 1) F M1 (by omega) (by omega) (ST_28 hS e3) e2
    push_cast at i1
    exact ⟨M', i1, i2, Kp_tr e3 i3⟩
theorem q_sort {B : Int} {b : Nat} {M : Mem} {r : Row} (hS : ST M b r) (W : WF1 B r) : ∃ M', f_X0_sortByHeat (b + 13) (b + 28) 16 M = some (0, M') ∧ Srt r (M' (b + 28)) 16 ∧ Kp (b + 28) 1 M M' :=
  q_sort_l W 16 0 100000 M rfl (by decide) hS ⟨fun i hi => by omega, fun i j hi hj => by omega⟩
/-- the turn of place i in the order o -/
def drvS (o : Nat → Int) (N i : Nat) (x : Row × Int) : Row × Int :=
  if x.1 859 ≤ x.2 then x
  else if lokF x.1 (o i) N = -5 then x
  else if disF x.1 (x.1 (416 + o i).toNat) - disF x.1 (lokF x.1 (o i) N) < x.1 858 then x
  else (goF x.1 (o i) (lokF x.1 (o i) N), x.2 + 1)
def drvF (o : Nat → Int) (N : Nat) (r : Row) (n : Nat) : Row × Int := match n with
  | 0 => (r, 0)
  | i + 1 => drvS o N i (drvF o N r i)
theorem lok_ok {r : Row} {h : Int} : ∀ n : Nat, lokF r h n = -5 ∨ ((0 ≤ lokF r h n ∧ lokF r h n < n) ∧ lokF r h n ≠ r (416 + h).toNat) := by
  intro n
  induction n with
  | zero => exact Or.inl rfl
  | succ n ih =>
    rw [lokF_s]
    split
    · rename_i c
      exact Or.inr ⟨by omega, c.1.1⟩
    · rcases ih with e | e
      · exact Or.inl e
      · exact Or.inr ⟨by omega, e.2⟩
theorem drvS_wf {B : Int} {o : Nat → Int} {N i : Nat} {x : Row × Int} (W : WF B x.1) (hN : x.1 863 = N) (ho : 0 ≤ o i ∧ o i < 16) : WF (B + 1) (drvS o N i x).1 := by
  have W0 : WF (B + 1) x.1 := ⟨WF1_upB W.1 (by omega), W.2⟩
  unfold drvS
  by_cases c1 : x.1 859 ≤ x.2
  · rw [if_pos c1]; exact W0
  rw [if_neg c1]
  by_cases c2 : lokF x.1 (o i) N = -5
  · rw [if_pos c2]; exact W0
  rw [if_neg c2]
  by_cases c3 : disF x.1 (x.1 (416 + o i).toNat) - disF x.1 (lokF x.1 (o i) N) < x.1 858
  · rw [if_pos c3]; exact W0
  rw [if_neg c3]
  rcases lok_ok (r := x.1) (h := o i) N with e | e
  · exact absurd e c2
  · have hq : 0 ≤ lokF x.1 (o i) N ∧ lokF x.1 (o i) N < x.1 863 := by omega
    exact ⟨goF_wf1 W.1 ho hq, goF_wf2 W.1 W.2.1 ho hq e.2, goF_wf3 W.1 W.2.2 ho hq⟩
theorem drvS_o {B : Int} {o : Nat → Int} {N i : Nat} {x : Row × Int} (W : WF1 B x.1) (hN : x.1 863 = N) (ho : 0 ≤ o i ∧ o i < 16) {j : Nat} (hj : j < 160 ∨ (432 ≤ j ∧ j < 448) ∨ 464 ≤ j) (hj2 : j ≠ 866) : (drvS o N i x).1 j = x.1 j := by
  have h1 := WF1_at W ho.1 ho.2
  have h2 := WF1_n W
  unfold drvS
  by_cases c1 : x.1 859 ≤ x.2
  · rw [if_pos c1]
  rw [if_neg c1]
  by_cases c2 : lokF x.1 (o i) N = -5
  · rw [if_pos c2]
  rw [if_neg c2]
  by_cases c3 : disF x.1 (x.1 (416 + o i).toNat) - disF x.1 (lokF x.1 (o i) N) < x.1 858
  · rw [if_pos c3]
  rw [if_neg c3]
  rcases lok_ok (r := x.1) (h := o i) N with e | e
  · exact absurd e c2
  · exact goF_o ho (by omega) (by omega) (by omega)
theorem drvS_c {o : Nat → Int} {N i : Nat} {x : Row × Int} : (drvS o N i x).2 - x.2 = (drvS o N i x).1 866 - x.1 866 ∧ x.2 ≤ (drvS o N i x).2 ∧ (drvS o N i x).2 ≤ x.2 + 1 := by
  unfold drvS
  by_cases c1 : x.1 859 ≤ x.2
  · rw [if_pos c1]; omega
  rw [if_neg c1]
  by_cases c2 : lokF x.1 (o i) N = -5
  · rw [if_pos c2]; omega
  rw [if_neg c2]
  by_cases c3 : disF x.1 (x.1 (416 + o i).toNat) - disF x.1 (lokF x.1 (o i) N) < x.1 858
  · rw [if_pos c3]; omega
  rw [if_neg c3]
  have e : goF x.1 (o i) (lokF x.1 (o i) N) 866 = x.1 866 + 1 := by unfold goF; rw [up_eq]
  dsimp only
  rw [e]
  omega
theorem drvF_ok {B : Int} {o : Nat → Int} {N : Nat} {r : Row} (W : WF B r) (hN : r 863 = N) (ho : ∀ i, i < 16 → 0 ≤ o i ∧ o i < 16) : ∀ n : Nat, n ≤ 16 → WF (B + n) (drvF o N r n).1 ∧ (∀ j, j < 160 ∨ (432 ≤ j ∧ j < 448) ∨ 464 ≤ j → j ≠ 866 → (drvF o N r n).1 j = r j) ∧ (drvF o N r n).1 866 = r 866 + (drvF o N r n).2 ∧ 0 ≤ (drvF o N r n).2 ∧ (drvF o N r n).2 ≤ n := by
  intro n
  induction n with
  | zero =>
    intro _
    refine ⟨?_, fun _ _ _ => rfl, ?_, Int.le_refl _, Int.le_refl _⟩
    · rw [show B + ((0 : Nat) : Int) = B by omega]; exact W
    · show r 866 = r 866 + 0
      omega
  | succ n ih =>
    intro hn
    obtain ⟨i1, i2, i3, i4, i5⟩ := ih (by omega)
    have hN' : (drvF o N r n).1 863 = N := by rw [i2 863 (by omega) (by decide), hN]
    have h1 := drvS_c (o := o) (N := N) (i := n) (x := drvF o N r n)
    have h2 := drvS_wf (i := n) i1 hN' (ho n (by omega))
    rw [show (drvF o N r (n + 1)) = drvS o N n (drvF o N r n) from rfl]
    refine ⟨?_, fun j hj hj2 => ?_, ?_, ?_, ?_⟩
    · rw [show B + ((n + 1 : Nat) : Int) = B + (n : Int) + 1 by omega]; exact h2
    · rw [drvS_o i1.1 hN' (ho n (by omega)) hj hj2]; exact i2 j hj hj2
    · omega
    · omega
    · omega
theorem drv_stuck {o : Nat → Int} {N : Nat} {r : Row} {i : Nat} (h : (drvF o N r i).1 859 ≤ (drvF o N r i).2) : ∀ d : Nat, drvF o N r (i + d) = drvF o N r i := by
  intro d
  induction d with
  | zero => rfl
  | succ d ih =>
    show drvS o N (i + d) (drvF o N r (i + d)) = drvF o N r i
    rw [ih]
    unfold drvS
    rw [if_pos h]
theorem slatF_c {r r' : Row} (W : ∃ B, WF1 B r) (h : ∀ j, 852 ≤ j → j < 863 → r' j = r j) : slatF r' = slatF r := by
  obtain ⟨B, W⟩ := W
  have h1 := seaF_b W
  have h2 : seaF r' = seaF r := by unfold seaF; rw [h 862 (by omega) (by omega), h 856 (by omega) (by omega)]
  unfold slatF
  rw [h2, h _ (by omega) (by omega)]
set_option maxRecDepth 20000 in
theorem q_drv_l {o : Nat → Int} {B : Int} {b N : Nat} {r : Row} (W : WF B r) (hN : r 863 = N) (ho : Srt r o 16) : ∀ (d i F : Nat) (M : Mem), i + d = 16 → d < F → ST M b (drvF o N r i).1 → (∀ i, M (b + 28) i = o i) → ∃ M', f_X7_driveHerd_b20 b F (drvF o N r i).2 (slatF r) i M = some ((drvF o N r 16).2, M') ∧ ST M' b (drvF o N r 16).1 ∧ Kp b 28 M M' := by
  have hn := WF1_n W.1
  have hdr := WF1_drov W.1
  intro d
  induction d with
  | zero =>
    intro i F M h1 h2 hS hO
    obtain ⟨F, rfl⟩ : ∃ k, F = k + 1 := ⟨F - 1, by omega⟩
    obtain rfl : i = 16 := by omega
    unfold f_X7_driveHerd_b20 f_X7_driveHerd_b122
    rw [if_pos (by omega), if_pos (by omega)]
    exact ⟨M, rfl, hS, Kp_id⟩
  | succ d ih =>
    intro i F M h1 h2 hS hO
    obtain ⟨F, rfl⟩ : ∃ k, F = k + 1 := ⟨F - 1, by omega⟩
    obtain ⟨k1, k2, k3, k4, k5⟩ := drvF_ok W hN ho.1 i (by omega)
    have hN' : (drvF o N r i).1 863 = N := by rw [k2 863 (by omega) (by decide), hN]
    have hD : (drvF o N r i).1 859 = r 859 := k2 859 (by omega) (by decide)
    have hG : (drvF o N r i).1 858 = r 858 := k2 858 (by omega) (by decide)
    have hsl : slatF (drvF o N r i).1 = slatF r := slatF_c ⟨B, W.1⟩ (fun j a1 a2 => k2 j (by omega) (by omega))
    have hb := ho.1 i (by omega)
    have hmg := WF1_marg W.1
    have hz := slatF_b W.1
    have ha := WF1_at k1.1 hb.1 hb.2
    have a1 : M (b + 1) 3 = enc false ((drvF o N r i).1 859) := hS.1.num (p := 3) (by omega) (by omega)
    have a2 : M (b + 1) 2 = enc false ((drvF o N r i).1 858) := hS.1.num (p := 2) (by omega) (by omega)
    have a3 := hS.1.at hb.1 hb.2
    simp only [enc, Bool.false_eq_true, if_false, hD, hG] at a1 a2 a3
    have a4 : M (b + 28) (i : Int).toNat = o i := by rw [hO]; congr 1
    have hst : (drvF o N r (i + 1)) = drvS o N i (drvF o N r i) := rfl
    unfold f_X7_driveHerd_b20 f_X7_driveHerd_b122 f_X7_driveHerd_b116
    rw [if_pos (by omega), if_neg (by omega), if_pos (by omega), if_pos (by rw [a1]; omega)]
    by_cases c1 : r 859 ≤ (drvF o N r i).2
    · rw [if_pos (by rw [a1]; exact c1)]
      have h5 := drv_stuck (o := o) (N := N) (r := r) (i := i) (by omega) (d + 1)
      rw [show i + (d + 1) = 16 by omega] at h5
      rw [h5]
      exact ⟨M, rfl, hS, Kp_id⟩
    · rw [if_neg (by rw [a1]; exact c1), if_pos (by omega), zltS, a4, if_pos (by omega), zltS, a3]
      have hq := q_best (k := b + 3) rfl hS k1.1 hb hN' (by omega)
      rw [hsl] at hq
      rw [hq, zbS]
      have hl := lok_ok (r := (drvF o N r i).1) (h := o i) N
      rw [if_pos (by omega)]
      have h3 := fun M' hM' => ih (i + 1) F M' (by omega) (by omega) hM'
      push_cast at h3
      by_cases c2 : lokF (drvF o N r i).1 (o i) N = -5
      · rw [if_pos c2]
        have hs : drvF o N r (i + 1) = drvF o N r i := by rw [hst]; unfold drvS; rw [if_neg (by omega), if_pos c2]
        rw [hs] at h3
        exact h3 M hS hO
      · have hl2 : (0 ≤ lokF (drvF o N r i).1 (o i) N ∧ lokF (drvF o N r i).1 (o i) N < N) := by omega
        have d1 := disF_b k1.1 (p := (drvF o N r i).1 (416 + o i).toNat) (by omega) (by omega)
        have d2 := disF_b k1.1 (p := lokF (drvF o N r i).1 (o i) N) (by omega) (by omega)
        have g1 := q_distance (k := b + 3) rfl hS.1 k1.1 (p := (drvF o N r i).1 (416 + o i).toNat) (by omega) (by omega) hz
        have g2 := q_distance (k := b + 3) rfl hS.1 k1.1 (p := lokF (drvF o N r i).1 (o i) N) (by omega) (by omega) hz
        have g3 : ∀ p : Int, iabs ((drvF o N r i).1 (0 + 4 * p).toNat - slatF r) = disF (drvF o N r i).1 p := fun p => by unfold disF; rw [hsl]
        rw [g3] at g1 g2
        rw [if_neg c2, g1, zbS, g2, zbS, if_pos (by omega), if_pos (by rw [a2]; omega)]
        by_cases c3 : disF (drvF o N r i).1 ((drvF o N r i).1 (416 + o i).toNat) - disF (drvF o N r i).1 (lokF (drvF o N r i).1 (o i) N) < r 858
        · rw [if_pos (by rw [a2]; exact c3)]
          have hs : drvF o N r (i + 1) = drvF o N r i := by rw [hst]; unfold drvS; rw [if_neg (by omega), if_neg c2, if_pos (by omega)]
          rw [hs] at h3
          exact h3 M hS hO
        · rw [if_neg (by rw [a2]; exact c3)]
          obtain ⟨M1, e1, e2, e3⟩ := q_drive hS k1.1 hb (q := lokF (drvF o N r i).1 (o i) N) (by omega)
          rw [e1, zbS]
          have hs : drvF o N r (i + 1) = (goF (drvF o N r i).1 (o i) (lokF (drvF o N r i).1 (o i) N), (drvF o N r i).2 + 1) := by rw [hst]; unfold drvS; rw [if_neg (by omega), if_neg c2, if_neg (by omega)]
          rw [hs] at h3
          obtain ⟨M', i1, i2, i3⟩ := h3 M1 e2 (fun x => by rw [e3 _ (by omega)]; exact hO x)
          exact ⟨M', i1, i2, Kp_tr e3 i3⟩
/-- one day of the herd alone: an order, then the drive -/
theorem q_herd {B : Int} {b N : Nat} {M : Mem} {r : Row} (hS : ST M b r) (W : WF B r) (hN : r 863 = N) : ∃ o M', Srt r o 16 ∧ f_X7_driveHerd b M = some ((drvF o N r 16).2, M') ∧ ST M' b (drvF o N r 16).1 ∧ Kp b 29 M M' := by
  obtain ⟨M1, e1, e2, e3⟩ := q_sort hS W.1
  obtain ⟨M2, g1, g2, g3⟩ := q_drv_l (o := M1 (b + 28)) W hN e2 16 0 100000 M1 rfl (by decide) (ST_28 hS e3) (fun _ => rfl)
  refine ⟨M1 (b + 28), M2, e2, ?_, g2, fun a ha => ?_⟩
  · unfold f_X7_driveHerd
    rw [q_seasonLat hS.1 W.1, zbS, e1, zbS]
    exact g1
  · rw [g3 a (by omega), e3 a (by omega)]

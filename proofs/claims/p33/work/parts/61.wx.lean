/-! more that holds of a row: no track where the shard is, room enough, tracks that lead to later ones -/
def WX (r : Row) : Prop :=
  (∀ h : Int, 0 ≤ h → h < 16 → r (160 + 16 * r (416 + h).toNat + h).toNat = 0) ∧
  (∀ p : Int, 0 ≤ p → p < 8 → cntAt r p 16 ≤ r ((0 + 4 * p) + 1).toNat) ∧
  (∀ p h : Int, 0 ≤ p → p < 8 → 0 ≤ h → h < 16 → r (160 + 16 * p + h).toNat ≠ 0 → r (416 + h).toNat ≠ r (160 + 16 * p + h).toNat - 1 → r (160 + 16 * (r (160 + 16 * p + h).toNat - 1) + h).toNat ≠ 0 → r (288 + 16 * p + h).toNat ≤ r (288 + 16 * (r (160 + 16 * p + h).toNat - 1) + h).toNat)
theorem WX_c {B : Int} {r r' : Row} (W : WF1 B r) (h : ∀ j, (j < 32 ∧ j % 4 = 1) ∨ (160 ≤ j ∧ j < 432) → r' j = r j) (X : WX r) : WX r' := by
  have hn := WF1_n W
  refine ⟨fun y y0 y1 => ?_, fun p p0 p1 => ?_, fun p y p0 p1 y0 y1 => ?_⟩
  · have ha := WF1_at W y0 y1
    rw [h (416 + y).toNat (by omega), h (160 + 16 * r (416 + y).toNat + y).toNat (by omega)]
    exact X.1 y y0 y1
  · rw [cntAt_c (fun i hi => h _ (by omega)), h _ (by omega)]
    exact X.2.1 p p0 p1
  · have ht := WF1_trk W p0 p1 y0 y1
    rw [h (160 + 16 * p + y).toNat (by omega), h (416 + y).toNat (by omega), h (288 + 16 * p + y).toNat (by omega)]
    intro c1 c2
    rw [h (160 + 16 * (r (160 + 16 * p + y).toNat - 1) + y).toNat (by omega), h (288 + 16 * (r (160 + 16 * p + y).toNat - 1) + y).toNat (by omega)]
    exact X.2.2 p y p0 p1 y0 y1 c1 c2
theorem goF_wx {B : Int} {r : Row} (W : WF1 B r) (W2 : WF2 r) (X : WX r) {h q : Int} (hh : 0 ≤ h ∧ h < 16) (hq : 0 ≤ q ∧ q < r 863) (hne : q ≠ r (416 + h).toNat) (hroom : cntAt r q 16 < r ((0 + 4 * q) + 1).toNat) : WX (goF r h q) := by
  have hn := WF1_n W
  have h1 := WF1_at W hh.1 hh.2
  have h8 : 0 ≤ r (416 + h).toNat ∧ r (416 + h).toNat < 8 := by omega
  have q8 : 0 ≤ q ∧ q < 8 := by omega
  refine ⟨fun y y0 y1 => ?_, fun p p0 p1 => ?_, fun x y p0 p1 y0 y1 => ?_⟩
  · rw [goF_at hh h8 q8 ⟨y0, y1⟩]
    by_cases e : y = h
    · rw [if_pos e, goF_trk hh h8 q8 q8 ⟨y0, y1⟩, if_pos ⟨e, rfl⟩]
    · have ha := WF1_at W y0 y1
      rw [if_neg e, goF_trk hh h8 q8 (by omega) ⟨y0, y1⟩, if_neg (fun z => e z.1), if_neg (fun z => e z.1)]
      exact X.1 y y0 y1
  · have e1 : cntAt (goF r h q) p 16 = cntAt (up r (416 + h).toNat q) p 16 := cntAt_c (fun i hi => by
      rw [goF_at hh h8 q8 (by omega)]
      by_cases e : (i : Int) = h
      · rw [if_pos e, e, up_eq]
      · rw [if_neg e, up_ne (by omega)])
    rw [e1, cntAt_up hh.1 hh.2, goF_o hh h8 q8 (j := ((0 + 4 * p) + 1).toNat) (by omega)]
    have hb := X.2.1 p p0 p1
    by_cases e : q = p
    · subst e
      rw [if_pos rfl, if_neg (fun z => hne z.symm)]
      omega
    · rw [if_neg e]
      split <;> omega
  · rw [goF_trk hh h8 q8 ⟨p0, p1⟩ ⟨y0, y1⟩, goF_at hh h8 q8 ⟨y0, y1⟩]
    have ht := WF1_trk W p0 p1 y0 y1
    by_cases e : y = h
    · rw [if_pos e]
      by_cases e1 : x = q
      · rw [if_pos ⟨e, e1⟩]
        intro c
        exact absurd rfl c
      · rw [if_neg (fun z => e1 z.2)]
        by_cases e2 : x = r (416 + h).toNat
        · rw [if_pos ⟨e, e2⟩]
          intro _ c
          omega
        · rw [if_neg (fun z => e2 z.2)]
          intro c1 c2
          rw [goF_trk hh h8 q8 (x := r (160 + 16 * x + y).toNat - 1) (by omega) ⟨y0, y1⟩, goF_left hh h8 q8 (x := x) ⟨p0, p1⟩ ⟨y0, y1⟩, goF_left hh h8 q8 (x := r (160 + 16 * x + y).toNat - 1) (by omega) ⟨y0, y1⟩]
          rw [if_neg (fun z => c2 z.2.symm), if_neg (show ¬ (y = h ∧ x = r (416 + h).toNat) from fun z => e2 z.2)]
          by_cases e4 : r (160 + 16 * x + y).toNat - 1 = r (416 + h).toNat
          · intro _
            rw [if_pos ⟨e, e4⟩]
            exact W2.1 x y p0 p1 y0 y1 c1
          · rw [if_neg (fun z => e4 z.2), if_neg (fun z => e4 z.2)]
            exact X.2.2 x y p0 p1 y0 y1 c1 (by rw [e] at e4 ⊢; exact fun z => e4 z.symm)
    · rw [if_neg e, if_neg (fun z => e z.1), if_neg (fun z => e z.1)]
      intro c1 c2
      rw [goF_trk hh h8 q8 (x := r (160 + 16 * x + y).toNat - 1) (by omega) ⟨y0, y1⟩, goF_left hh h8 q8 (x := x) ⟨p0, p1⟩ ⟨y0, y1⟩, goF_left hh h8 q8 (x := r (160 + 16 * x + y).toNat - 1) (by omega) ⟨y0, y1⟩]
      rw [if_neg (fun z => e z.1), if_neg (fun z => e z.1), if_neg (fun z => e z.1), if_neg (fun z => e z.1)]
      exact X.2.2 x y p0 p1 y0 y1 c1 c2
theorem rmv_wx {B : Int} {r : Row} (W : WF1 B r) (X : WX r) {p d : Int} (hp : 0 ≤ p ∧ p < 8) {v : Nat} (hv : v ≤ 16) : WX (rmv r p d v) := by
  have hn := WF1_n W
  refine ⟨fun y y0 y1 => ?_, fun q q0 q1 => ?_, fun x y p0 p1 y0 y1 => ?_⟩
  · have ha := WF1_at W y0 y1
    rw [rmv_o hp hv (j := (416 + y).toNat) (by omega)]
    rcases rmv_trk (r := r) (d := d) (v := v) hp (x := r (416 + y).toNat) (y := y) (by omega) ⟨y0, y1⟩ with e | e
    · exact e
    · rw [e]; exact X.1 y y0 y1
  · rw [cntAt_c (fun i hi => rmv_o hp hv (by omega)), rmv_o hp hv (by omega)]
    exact X.2.1 q q0 q1
  · have ht := WF1_trk W p0 p1 y0 y1
    rcases rmv_trk (r := r) (d := d) (v := v) hp (x := x) (y := y) ⟨p0, p1⟩ ⟨y0, y1⟩ with e | e
    · rw [e]
      intro c
      exact absurd rfl c
    · rw [e, rmv_o hp hv (j := (416 + y).toNat) (by omega), rmv_o hp hv (j := (288 + 16 * x + y).toNat) (by omega)]
      intro c1 c2
      rw [rmv_o hp hv (j := (288 + 16 * (r (160 + 16 * x + y).toNat - 1) + y).toNat) (by omega)]
      rcases rmv_trk (r := r) (d := d) (v := v) hp (x := r (160 + 16 * x + y).toNat - 1) (y := y) (by omega) ⟨y0, y1⟩ with f | f
      · rw [f]
        intro c
        exact absurd rfl c
      · rw [f]
        exact X.2.2 x y p0 p1 y0 y1 c1 c2
theorem cutF_wx {B : Int} {r : Row} (W : WF B r) (X : WX r) {p : Int} (hp : 0 ≤ p ∧ p < 8) : WX (cutF r p) := by
  unfold cutF
  by_cases c : r ((0 + 4 * p) + 2).toNat = 1
  · rw [if_pos c]; exact X
  · rw [if_neg c]
    exact WX_c (rmv_wf1 W.1 hp 16 (by decide)) (fun j hj => up_ne (by omega)) (rmv_wx W.1 X hp (by decide))
theorem wolfF_wx {B : Int} {r : Row} (W : WF B r) (X : WX r) {w : Int} (hw : 0 ≤ w ∧ w < 3) : WX (wolfF r w) := by
  unfold wolfF
  have h1 : WX (wgo r w) := by
    unfold wgo
    exact WX_c W.1 (fun j hj => up_ne (by omega)) X
  exact cutF_wx (wgo_wf W hw) h1 (wolfF_at W hw)
theorem roamF_wx {B : Int} {r : Row} (W : WF B r) (X : WX r) : ∀ n : Nat, n ≤ 3 → WX (roamF r n) := by
  intro n
  induction n with
  | zero => intro _; exact X
  | succ n ih => intro hn; exact wolfF_wx (roamF_wf W n (by omega)) (ih (by omega)) (by omega)
theorem growP_wx {B : Int} {r : Row} (W : WF B r) (X : WX r) {p : Int} (hp : 0 ≤ p ∧ p < 8) : WX (growP r p) := by
  unfold growP
  by_cases c : r ((0 + 4 * p) + 2).toNat = 1
  · rw [if_pos c]; exact X
  · rw [if_neg c]
    exact WX_c (rmv_wf1 W.1 hp 16 (by decide)) (fun j hj => up_ne (by omega)) (rmv_wx W.1 X hp (by decide))
theorem growF_wx {B : Int} {r : Row} (W : WF B r) (X : WX r) : ∀ n : Nat, n ≤ 8 → WX (growF r n) := by
  intro n
  induction n with
  | zero => intro _; exact X
  | succ n ih => intro hn; exact growP_wx (growF_wf W n (by omega)) (ih (by omega)) (by omega)
theorem postF_wx {B : Int} {r : Row} (W : WF B r) (X : WX r) (n : Nat) (hn : n ≤ 8) : WX (postF r n) :=
  WX_c W.1 (fun j hj => by
    rcases hj with hj | hj
    · exact postF_o (by omega) n hn
    · exact postF_o (by omega) n hn) X
theorem lok_room {r : Row} {h : Int} : ∀ n : Nat, lokF r h n = -5 ∨ cntAt r (lokF r h n) 16 < r ((0 + 4 * lokF r h n) + 1).toNat := by
  intro n
  induction n with
  | zero => exact Or.inl rfl
  | succ n ih =>
    rw [lokF_s]
    by_cases c : ((n : Int) ≠ r (416 + h).toNat ∧ cntAt r (n : Int) 16 < r ((0 + 4 * (n : Int)) + 1).toNat) ∧ (lokF r h n = -5 ∨ disF r (n : Int) < disF r (lokF r h n))
    · rw [if_pos c]; exact Or.inr c.1.2
    · rw [if_neg c]; exact ih
theorem drvS_wx {B : Int} {o : Nat → Int} {N i : Nat} {x : Row × Int} (W : WF B x.1) (X : WX x.1) (hN : x.1 863 = N) (ho : 0 ≤ o i ∧ o i < 16) : WX (drvS o N i x).1 := by
  unfold drvS
  by_cases c1 : x.1 859 ≤ x.2
  · rw [if_pos c1]; exact X
  rw [if_neg c1]
  by_cases c2 : lokF x.1 (o i) N = -5
  · rw [if_pos c2]; exact X
  rw [if_neg c2]
  by_cases c3 : disF x.1 (x.1 (416 + o i).toNat) - disF x.1 (lokF x.1 (o i) N) < x.1 858
  · rw [if_pos c3]; exact X
  rw [if_neg c3]
  rcases lok_ok (r := x.1) (h := o i) N with e | e
  · exact absurd e c2
  · rcases lok_room (r := x.1) (h := o i) N with f | f
    · exact absurd f c2
    · exact goF_wx W.1 W.2.1 X ho (by omega) e.2 f
theorem drvF_wx {B : Int} {o : Nat → Int} {N : Nat} {r : Row} (W : WF B r) (X : WX r) (hN : r 863 = N) (ho : ∀ i, i < 16 → 0 ≤ o i ∧ o i < 16) : ∀ n : Nat, n ≤ 16 → WX (drvF o N r n).1 := by
  intro n
  induction n with
  | zero => intro _; exact X
  | succ n ih =>
    intro hn
    have h1 := drvF_ok W hN ho n (by omega)
    exact drvS_wx (i := n) h1.1 (ih (by omega)) (by rw [h1.2.1 863 (by omega) (by decide), hN]) (ho n (by omega))
theorem dayF_wx {B : Int} {o : Nat → Int} {r : Row} (W : WF B r) (X : WX r) {N Nw : Nat} (hN : r 863 = N) (h3 : Nw ≤ 3) (ho : Srt (coolF r 16) o 16) : WX (dayF o N Nw r) := by
  have hn := WF1_n W.1
  have h8 : N ≤ 8 := by omega
  obtain ⟨k1, k2, k3⟩ := dayR_ok W h8 h3
  have hN2 : dayR N Nw r 863 = N := by rw [k2 863 (by omega) (by omega) (by omega), hN]
  have x1 : WX (coolF r 16) := WX_c W.1 (fun j hj => coolF_h (by omega)) X
  have x2 : WX (dayR N Nw r) := by
    unfold dayR
    exact growF_wx (roamF_wf (coolF_wf W) Nw h3) (roamF_wx (coolF_wf W) x1 Nw h3) N h8
  obtain ⟨g1, g2, -⟩ := drvF_ok (o := o) k1 hN2 ho.1 16 (by decide)
  have x3 := drvF_wx k1 x2 hN2 ho.1 16 (by decide)
  have x4 : WX (dayP N (drvF o N (dayR N Nw r) 16).1) := WX_c g1.1 (fun j hj => by
    rcases hj with hj | hj
    · exact dayP_o h8 (by omega)
    · exact dayP_o h8 (by omega)) x3
  unfold dayF nxt
  exact WX_c (dayP_wf g1 h8).1 (fun j hj => up_ne (by omega)) x4
theorem rchF_wx {B : Int} {r : Row} (W : WF B r) (X : WX r) {i h ho cr : Int} {S N : Nat} (hi : 0 ≤ i ∧ i < 6) (hh : 0 ≤ h ∧ h < 16) (hN : N ≤ 8) : WX (rchF r i h ho cr S N) :=
  WX_c W.1 (fun j hj => rchF_o hi hh hN (by omega)) X
theorem addF_wx {B : Int} {r : Row} (W : WF B r) (X : WX r) (h8 : r 863 < 8) {v1 v2 v3 : Int} (h2 : 0 ≤ v2) : WX (addF r v1 v2 v3) := by
  have hn := WF1_n W.1
  have hno : ∀ j, 160 ≤ j → j < 432 → addF r v1 v2 v3 j = r j := fun j q1 q2 => addF_o (by omega) (by omega) (by omega) (by omega) (by omega)
  refine ⟨fun y y0 y1 => ?_, fun p p0 p1 => ?_, fun p y p0 p1 y0 y1 => ?_⟩
  · have ha := WF1_at W.1 y0 y1
    rw [hno (416 + y).toNat (by omega) (by omega), hno (160 + 16 * r (416 + y).toNat + y).toNat (by omega) (by omega)]
    exact X.1 y y0 y1
  · rw [cntAt_c (fun i hi => hno _ (by omega) (by omega))]
    by_cases e : p = r 863
    · have e1 : addF r v1 v2 v3 ((0 + 4 * p) + 1).toNat = v2 := by
        unfold addF
        rw [up_ne (by omega), up_ne (by omega), e, up_eq]
      have e2 : cntAt r p 16 = 0 := by
        unfold cntAt
        refine sumN_0 (fun k hk => ?_)
        have ha := WF1_at W.1 (h := (k : Int)) (by omega) (by omega)
        rw [if_neg (by omega)]
      rw [e1, e2]
      exact h2
    · rw [addF_o (by omega) (by omega) (by omega) (by omega) (by omega)]
      exact X.2.1 p p0 p1
  · have ht := WF1_trk W.1 p0 p1 y0 y1
    rw [hno (160 + 16 * p + y).toNat (by omega) (by omega), hno (416 + y).toNat (by omega) (by omega), hno (288 + 16 * p + y).toNat (by omega) (by omega)]
    intro c1 c2
    rw [hno (160 + 16 * (r (160 + 16 * p + y).toNat - 1) + y).toNat (by omega) (by omega), hno (288 + 16 * (r (160 + 16 * p + y).toNat - 1) + y).toNat (by omega) (by omega)]
    exact X.2.2 p y p0 p1 y0 y1 c1 c2

theorem PS_self (Q : Mem) : PS Q Q (Q 215 12) (Q 215 13) (Q 215 14) := ⟨fun _ _ => rfl, fun _ _ => rfl, rfl, rfl, rfl⟩
set_option maxRecDepth 20000 in
theorem p_next_l {Q : Mem} {n e : Nat} {c : Nat → Int} (hT : TQ Q n c) (he : e ≤ n) (h44 : e < n → c e = 44) : ∀ (d q F : Nat), q + d = e → d < F → (∀ j, q ≤ j → j < e → c j ≠ 44) → f_X10_nextBehind_b2 F q Q = some ((e : Int) + 1, Q) := by
  have h4 := hT.1
  have hn := hT.2.1
  intro d
  induction d with
  | zero =>
    intro q F h1 h2 hc
    obtain ⟨F, rfl⟩ : ∃ k, F = k + 1 := ⟨F - 1, by omega⟩
    obtain rfl : q = e := by omega
    unfold f_X10_nextBehind_b2 f_X10_nextBehind_b27
    rw [h4, if_pos (by omega), if_pos (by omega)]
    by_cases c1 : q < n
    · have e7 : Q 217 (q : Int).toNat = c q := hT.2.2.1 q (by omega)
      have hb := hT.2.2.2 q (by omega)
      rw [if_neg (by omega), if_pos (by omega), e7, if_pos (by omega), if_pos (h44 c1)]
    · rw [if_pos (by omega)]
  | succ d ih =>
    intro q F h1 h2 hc
    obtain ⟨F, rfl⟩ : ∃ k, F = k + 1 := ⟨F - 1, by omega⟩
    have h3 := ih (q + 1) F (by omega) (by omega) (fun j a1 a2 => hc j (by omega) a2)
    have e7 : Q 217 (q : Int).toNat = c q := hT.2.2.1 q (by omega)
    have hb := hT.2.2.2 q (by omega)
    push_cast at h3
    unfold f_X10_nextBehind_b2
    rw [h4, if_pos (by omega), if_pos (by omega), if_neg (by omega), if_pos (by omega), e7, if_pos (by omega), if_neg (hc q (by omega) (by omega))]
    exact h3
theorem p_next {Q : Mem} {n e q : Nat} {c : Nat → Int} (hT : TQ Q n c) (he : e ≤ n) (h44 : e < n → c e = 44) (hq : q ≤ e) (hc : ∀ j, q ≤ j → j < e → c j ≠ 44) : f_X10_nextBehind q Q = some ((e : Int) + 1, Q) :=
  p_next_l hT he h44 (e - q) q 100000 (by omega) (by have := hT.2.1; omega) hc
set_option maxRecDepth 20000 in
theorem p_numAt_l {Q : Mem} {n q k : Nat} {c : Nat → Int} (hT : TQ Q n c) (hd : ∀ j, j < k → q + j < n ∧ Dg (c (q + j))) (hs : ¬ (q + k < n ∧ Dg (c (q + k)))) (hqk : q + k ≤ n) : ∀ (d i F : Nat), i + d = k → d < F → f_X10_numberAt_b4 F (numv c q i) ((q + i : Nat) : Int) Q = some (numv c q k, Q) := by
  have h4 := hT.1
  have hn := hT.2.1
  intro d
  induction d with
  | zero =>
    intro i F h1 h2
    obtain ⟨F, rfl⟩ : ∃ k, F = k + 1 := ⟨F - 1, by omega⟩
    obtain rfl : i = k := by omega
    unfold f_X10_numberAt_b4 f_X10_numberAt_b49
    rw [h4, if_pos (by omega), if_pos (by omega)]
    by_cases c1 : q + i < n
    · have e7 : Q 217 ((q + i : Nat) : Int).toNat = c (q + i) := hT.2.2.1 (q + i) (by omega)
      have hb := hT.2.2.2 (q + i) (by omega)
      rw [if_neg (by omega), if_pos (by omega), e7, p_in (by omega) (by decide) (by decide), zbS, bitR, bit0, if_neg (fun z => hs ⟨c1, z⟩)]
    · rw [if_pos (by omega)]
  | succ d ih =>
    intro i F h1 h2
    obtain ⟨F, rfl⟩ : ∃ k, F = k + 1 := ⟨F - 1, by omega⟩
    have h3 := ih (i + 1) F (by omega) (by omega)
    have hdi := hd i (by omega)
    have e7 : Q 217 ((q + i : Nat) : Int).toNat = c (q + i) := hT.2.2.1 (q + i) (by omega)
    have hb := hT.2.2.2 (q + i) (by omega)
    unfold f_X10_numberAt_b4
    rw [h4, if_pos (by omega), if_pos (by omega), if_neg (by omega), if_pos (by omega), e7, p_in (by omega) (by decide) (by decide), zbS, bitR, bit0, if_pos hdi.2, zltS, e7]
    rw [numv_s] at h3
    rw [show 10 * numv c q i + c (q + i) - 48 = numv c q i * 10 + (c (q + i) - 48) by omega, show ((q + i : Nat) : Int) + 1 = ((q + (i + 1) : Nat) : Int) by omega]
    exact h3
theorem p_numAt {Q : Mem} {n q k mx : Nat} {c : Nat → Int} (hT : TQ Q n c) (hR : NumRun c n q mx k) (hs : ¬ (q + k < n ∧ Dg (c (q + k)))) : f_X10_numberAt q Q = some (numv c q k, Q) := by
  have hk := (hR.2.2.1 (k - 1) (by have := hR.1; omega)).1
  have h := p_numAt_l hT hR.2.2.1 hs (by have := hR.1; omega) k 0 100000 (by omega) (by have := hT.2.1; omega)
  rw [Nat.add_zero] at h
  exact h
/-- what a request in the text gives the model -/
theorem one_ok {c : Nat → Int} {n p e : Nat} {rd ky vl : Int} (h : OneReq c n p e rd ky vl) (h44 : e < n → c e = 44) : (∀ j, p ≤ j → j < e → c j ≠ 44) ∧ (0 ≤ ky ∧ ky ≤ 999) ∧ (∀ Q, TQ Q n c → f_X10_numberAt ((p + 2 : Nat) : Int) Q = some (ky, Q)) ∧ ((vl = -1 ∧ ∀ j, p ≤ j → j < e → c j ≠ 61) ∨ ((0 ≤ vl ∧ vl ≤ 9999) ∧ ∃ q, p ≤ q ∧ q < e ∧ c q = 61 ∧ (∀ j, p ≤ j → j < e → j ≠ q → c j ≠ 61) ∧ ∀ Q, TQ Q n c → f_X10_numberAt ((q + 1 : Nat) : Int) Q = some (vl, Q))) := by
  obtain ⟨h1, h2, ⟨h3, h3', h3''⟩, h4, k, h5, h6, h7⟩ := h
  have hk := h5
  obtain ⟨k1, k2, k3, -, -⟩ := hk
  have hb := numv_b (c := c) (p := p + 2) k (fun j hj => (k3 j hj).2)
  have hl := lim_3 k k2
  have dig : ∀ j, p + 2 ≤ j → j < p + 2 + k → Dg (c j) := fun j a1 a2 => by
    have := (k3 (j - (p + 2)) (by omega)).2
    rw [show p + 2 + (j - (p + 2)) = j by omega] at this
    exact this
  rcases h7 with ⟨g1, g2, g3⟩ | ⟨g1, g2, k2', g3, g4, g5⟩
  · have hne : ∀ j, p ≤ j → j < e → c j ≠ 44 ∧ c j ≠ 61 := by
      intro j a1 a2
      by_cases e0 : j = p
      · rw [e0]; omega
      · by_cases e1 : j = p + 1
        · rw [e1]; omega
        · have := dig j (by omega) (by omega)
          omega
    refine ⟨fun j a1 a2 => (hne j a1 a2).1, by omega, fun Q hQ => ?_, Or.inl ⟨g1, fun j a1 a2 => (hne j a1 a2).2⟩⟩
    rw [h6]
    exact p_numAt hQ h5 (fun z => by rw [← g2] at z; have := h44 z.1; omega)
  · have hk2 := g3
    obtain ⟨m1, m2, m3, -, -⟩ := hk2
    have hb2 := numv_b (c := c) (p := p + 3 + k) k2' (fun j hj => (m3 j hj).2)
    have hl2 := lim_b k2' m2
    have dig2 : ∀ j, p + 3 + k ≤ j → j < p + 3 + k + k2' → Dg (c j) := fun j a1 a2 => by
      have := (m3 (j - (p + 3 + k)) (by omega)).2
      rw [show p + 3 + k + (j - (p + 3 + k)) = j by omega] at this
      exact this
    have hne : ∀ j, p ≤ j → j < e → j ≠ p + 2 + k → c j ≠ 44 ∧ c j ≠ 61 := by
      intro j a1 a2 a3
      by_cases e0 : j = p
      · rw [e0]; omega
      · by_cases e1 : j = p + 1
        · rw [e1]; omega
        · by_cases e2 : j < p + 2 + k
          · have := dig j (by omega) (by omega)
            omega
          · have := dig2 j (by omega) (by omega)
            omega
    refine ⟨fun j a1 a2 => ?_, by omega, fun Q hQ => ?_, Or.inr ⟨by omega, p + 2 + k, by omega, by omega, g2, fun j a1 a2 a3 => (hne j a1 a2 a3).2, fun Q hQ => ?_⟩⟩
    · by_cases e0 : j = p + 2 + k
      · rw [e0]; omega
      · exact (hne j a1 a2 e0).1
    · rw [h6]
      exact p_numAt hQ h5 (fun z => by rw [g2] at z; omega)
    · rw [g4, show p + 2 + k + 1 = p + 3 + k by omega]
      exact p_numAt hQ g3 (fun z => by rw [← g5] at z; have := h44 z.1; omega)
def AK (r : Row) (R K : Nat → Int) (t d : Nat) : Prop := ∀ j, j < d → (0 ≤ R (t + j) ∧ R (t + j) < r 865) ∧ 0 ≤ K (t + j) ∧ K (t + j) < 256
theorem AK_s {r : Row} {R K : Nat → Int} {t d : Nat} : AK r R K t (d + 1) ↔ ((0 ≤ R t ∧ R t < r 865) ∧ 0 ≤ K t ∧ K t < 256) ∧ AK r R K (t + 1) d := by
  constructor
  · intro h
    refine ⟨h 0 (by omega), fun j hj => ?_⟩
    have := h (j + 1) (by omega)
    rw [show t + (j + 1) = t + 1 + j by omega] at this
    exact this
  · intro h j hj
    by_cases e : j = 0
    · rw [e]; exact h.1
    · have := h.2 (j - 1) (by omega)
      rw [show t + 1 + (j - 1) = t + j by omega] at this
      exact this
set_option maxRecDepth 20000 in
theorem p_known_l {B : Int} {Q : Mem} {r : Row} (hQ : Q 216 = r) (W : WF1 B r) {n : Nat} {c : Nat → Int} (hT : TQ Q n c) {R K V : Nat → Int} : ∀ (d t p F : Nat) (v1 : Int), ReqL c n R K V d t p → d < F → (v1 = 0 ∨ v1 = 1) → (¬ (v1 = 1 ∧ AK r R K t d) → f_X10_areKnown_b4 F v1 p Q = some (0, Q)) ∧ (v1 = 1 ∧ AK r R K t d → f_X10_areKnown_b4 F v1 p Q = some (1, Q)) := by
  have h4 := hT.1
  have hn := hT.2.1
  have hnr := WF1_nr W
  intro d
  induction d with
  | zero => intro t p F v1 hL; exact hL.elim
  | succ d ih =>
    intro t p F v1 hL h2 hv
    obtain ⟨F, rfl⟩ : ∃ k, F = k + 1 := ⟨F - 1, by omega⟩
    obtain ⟨e, o1, o2⟩ := hL
    have h44 : e < n → c e = 44 := fun q => by rcases o2 with o2 | o2; omega; exact o2.2.2.1
    obtain ⟨w1, w2, w3, -⟩ := one_ok o1 h44
    have hpe := o1.1
    have hen := o1.2.1
    have hrd := o1.2.2.1
    have hnx := p_next hT hen h44 (q := p) (by omega) w1
    have e7 : Q 217 (p : Int).toNat = c p := hT.2.2.1 p (by omega)
    have hkn := w3 Q hT
    -- behind this request
    have after : ∀ t1 : Int, t1 = 0 ∨ t1 = 1 → (¬ (t1 = 1 ∧ AK r R K (t + 1) d) → f_X10_areKnown_b50 (f_X10_areKnown_b4 F) p t1 Q = some (0, Q)) ∧ (t1 = 1 ∧ AK r R K (t + 1) d → f_X10_areKnown_b50 (f_X10_areKnown_b4 F) p t1 Q = some (1, Q)) := by
      intro t1 ht1
      unfold f_X10_areKnown_b50
      rw [hnx, zbS]
      rcases o2 with ⟨o2, o3⟩ | ⟨o2, o3, o4, o5⟩
      · subst o2
        obtain ⟨F, rfl⟩ : ∃ k, F = k + 1 := ⟨F - 1, by omega⟩
        have hend : f_X10_areKnown_b4 (F + 1) t1 ((e : Int) + 1) Q = some (t1, Q) := by
          unfold f_X10_areKnown_b4
          rw [h4, if_pos (by omega), if_pos (by omega), if_pos (by omega), if_pos ht1]
        rw [hend]
        refine ⟨fun q => ?_, fun q => by rw [q.1]⟩
        rcases ht1 with z | z
        · rw [z]
        · exact absurd ⟨z, fun j hj => absurd hj (by omega)⟩ q
      · have := ih (t + 1) (e + 1) F t1 o5 (by omega) ht1
        push_cast at this
        exact this
    unfold f_X10_areKnown_b4 f_X10_areKnown_b49
    rw [h4, if_pos (by omega), if_pos (by omega), if_neg (by omega), if_pos (by omega)]
    by_cases c0 : v1 = 0
    · rw [if_pos c0]
      refine ⟨fun _ => (after 0 (Or.inl rfl)).1 (fun q => absurd q.1 (by decide)), fun q => absurd q.1 (by omega)⟩
    · rw [if_neg c0, if_pos (by omega), e7, p_isReader (by omega) (by rw [hQ]; omega), zbS, bitR, bit0, hQ]
      by_cases c1 : 0 ≤ c p - 48 ∧ c p - 48 < r 865
      · rw [if_pos c1, show (p : Int) + 2 = ((p + 2 : Nat) : Int) by omega, hkn, zbS, p_isKey (by omega), zbS, bitR, bit0]
        by_cases c2 : 0 ≤ K t ∧ K t < 256
        · rw [if_pos c2]
          have ha := after 1 (Or.inr rfl)
          refine ⟨fun q => ha.1 (fun z => q ⟨by omega, AK_s.mpr ⟨⟨by omega, c2⟩, z.2⟩⟩), fun q => ha.2 ⟨rfl, (AK_s.mp q.2).2⟩⟩
        · rw [if_neg c2]
          exact ⟨fun _ => (after 0 (Or.inl rfl)).1 (fun q => absurd q.1 (by decide)), fun q => absurd (AK_s.mp q.2).1.2 c2⟩
      · rw [if_neg c1]
        exact ⟨fun _ => (after 0 (Or.inl rfl)).1 (fun q => absurd q.1 (by decide)), fun q => absurd (show 0 ≤ c p - 48 ∧ c p - 48 < r 865 by have := (AK_s.mp q.2).1.1; omega) c1⟩
set_option maxRecDepth 20000 in
theorem q_known_l {B : Int} {M : Mem} {r : Row} (hS : ST0 M 1 r) (W : WF1 B r) {D : Nat} (hD : M 210 1 = D) (h16 : D ≤ 16) (hin : ∀ j, j < D → inR (M 211 j) ∧ inR (M 212 j)) : ∀ (d t F : Nat), t + d = D → d < F → (¬ AK r (M 211) (M 212) t d → f_X9_readRequests_b20 F t M = some (-1, M)) ∧ (AK r (M 211) (M 212) t d → f_X9_readRequests_b20 F t M = zbnd (f_X1_store 1 M) fun _ M9 => f_X9_readRequests_b85 100000 0 0 M9) := by
  have hnr := WF1_nr W
  have hr := hS.nr
  intro d
  induction d with
  | zero =>
    intro t F h1 h2
    obtain ⟨F, rfl⟩ : ∃ k, F = k + 1 := ⟨F - 1, by omega⟩
    refine ⟨fun q => absurd (fun j hj => absurd hj (by omega)) q, fun _ => ?_⟩
    unfold f_X9_readRequests_b20
    rw [hD, if_pos (by omega), if_pos (by omega), if_pos (by omega)]
  | succ d ih =>
    intro t F h1 h2
    obtain ⟨F, rfl⟩ : ∃ k, F = k + 1 := ⟨F - 1, by omega⟩
    have h3 := ih (t + 1) F (by omega) (by omega)
    push_cast at h3
    have hi := hin t (by omega)
    have hr2 : M 22 0 = r 865 := hr
    unfold f_X9_readRequests_b20 f_X9_readRequests_b62
    rw [hD, if_pos (by omega), if_pos (by omega), if_neg (by omega), if_pos (by omega), show (t : Int).toNat = t from rfl, q_isReader hi.1 (by rw [hr2]; exact hnr), zbS, bitR, bit0, hr2]
    by_cases c1 : 0 ≤ M 211 t ∧ M 211 t < r 865
    · rw [if_pos c1, q_isKey hi.2, zbS, bitR, bit0]
      by_cases c2 : 0 ≤ M 212 t ∧ M 212 t < 256
      · rw [if_pos c2]
        exact ⟨fun q => h3.1 (fun z => q (AK_s.mpr ⟨⟨c1, c2⟩, z⟩)), fun q => h3.2 (AK_s.mp q).2⟩
      · rw [if_neg c2]
        exact ⟨fun _ => rfl, fun q => absurd (AK_s.mp q).1.2 c2⟩
    · rw [if_neg c1]
      exact ⟨fun _ => rfl, fun q => absurd (AK_s.mp q).1.1 c1⟩

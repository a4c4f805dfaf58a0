theorem c_served {B : Int} {M Q M' Q' : Mem} {r' : Row} (I : Inv2 B M Q) (hS : ST M' 1 r') (W : WF B r') (hQ : Q' 216 = r') (k1 : Ks M M') (k2 : Kr Q Q') (h1 : ∀ j, 871 ≤ j → r' j = Q 216 j) (h2 : r' 862 = Q 216 862) : Inv2 (B + 1000) M' Q' :=
  Inv2_op I (by omega) hS (WF_B W (by omega)) (by rw [h2]; exact I.2.1.2.2) hQ (fun j h _ => h1 j h) (fun y hy => k1 y (by omega)) (by rw [k1 210 (by omega)]) (fun j hj => k2.2 j (by omega)) (k2.1 217 (by decide) (by decide) (by decide))
theorem isR {B : Int} {M Q : Mem} (I : Inv2 B M Q) {v : Int} (hv : inR v) : f_X9_isReader v M = some (if 0 ≤ v ∧ v < Q 216 865 then 1 else 0, M) ∧ f_X10_isReader v Q = some (if 0 ≤ v ∧ v < Q 216 865 then 1 else 0, Q) := by
  have hn := WF1_nr I.2.1.2.1.1
  have hr : M 22 0 = Q 216 865 := I.2.1.1.1.nr
  have h1 := q_isReader (M := M) hv (by rw [hr]; exact hn)
  rw [hr] at h1
  exact ⟨h1, p_isReader hv hn⟩
theorem c_request {v1 v2 : Int} (hv1 : inR v1) (hv2 : inR v2) : CallOK (f_X9_request v1 v2) (f_X10_request v1 v2) := by
  intro B M Q I hB
  obtain ⟨g1, g2⟩ := isR I hv1
  by_cases c1 : 0 ≤ v1 ∧ v1 < Q 216 865
  · by_cases c2 : 0 ≤ v2 ∧ v2 < 256
    · obtain ⟨M1, Q1, s1, s2, I1, hr, kc, km⟩ := x_store I
      have e865 := hr 865 (by decide)
      obtain ⟨x, M', Q', r', i1, i2, i3, i4, i5, i6, i7, i8, i9, -⟩ := x_serve (Q := Q1) I1.2.1.1 I1.2.1.2.1 (i := v1) (key := v2) (v3 := -1) (by omega) c2 (Or.inl rfl) (by rw [if_pos rfl])
      refine ⟨x, M', Q', ?_, ?_, c_served I1 i3 i4 i5 i6 i7 i8 i9, fun y hy => by rw [i6 y (by omega), kc y (by omega)], fun y hy => by rw [i7.1 y (by omega) (by omega) (by omega), km.1 y (by omega) (by omega)]⟩
      · unfold f_X9_request
        rw [g1, zbS, bitR, bit0, if_pos c1, q_isKey hv2, zbS, bitR, bit0, if_pos c2, s1, zbS, i1, zbS]
      · unfold f_X10_request
        rw [g2, zbS, bitR, bit0, if_pos c1, p_isKey hv2, zbS, bitR, bit0, if_pos c2, s2, zbS, i2, zbS]
    · refine call_no I (x := -1) ?_ ?_
      · unfold f_X9_request f_X9_request_b15
        rw [g1, zbS, bitR, bit0, if_pos c1, q_isKey hv2, zbS, bitR, bit0, if_neg c2]
      · unfold f_X10_request f_X10_request_b15
        rw [g2, zbS, bitR, bit0, if_pos c1, p_isKey hv2, zbS, bitR, bit0, if_neg c2]
  · refine call_no I (x := -1) ?_ ?_
    · unfold f_X9_request f_X9_request_b15
      rw [g1, zbS, bitR, bit0, if_neg c1]
    · unfold f_X10_request f_X10_request_b15
      rw [g2, zbS, bitR, bit0, if_neg c1]
theorem c_write {v1 v2 v3 : Int} (hv1 : inR v1) (hv2 : inR v2) (hv3 : inR v3) : CallOK (f_X9_write v1 v2 v3) (f_X10_write v1 v2 v3) := by
  intro B M Q I hB
  obtain ⟨g1, g2⟩ := isR I hv1
  by_cases c1 : 0 ≤ v1 ∧ v1 < Q 216 865
  · by_cases c2 : 0 ≤ v2 ∧ v2 < 256
    · by_cases c3 : 0 ≤ v3 ∧ v3 ≤ 9999
      · obtain ⟨M1, Q1, s1, s2, I1, hr, kc, km⟩ := x_store I
        have e865 := hr 865 (by decide)
        obtain ⟨x, M', Q', r', i1, i2, i3, i4, i5, i6, i7, i8, i9, -⟩ := x_serve (Q := wr Q1 216 (464 + v2).toNat v3) I1.2.1.1 I1.2.1.2.1 (i := v1) (key := v2) (v3 := v3) (by omega) c2 (Or.inr c3) (by rw [if_neg (by omega), wr_eq])
        have K2 := Kr_tr (Kr_6 (Q := Q1) (i := (464 + v2).toNat) (v := v3)) i7
        refine ⟨x, M', Q', ?_, ?_, c_served I1 i3 i4 i5 i6 K2 i8 i9, fun y hy => by rw [i6 y (by omega), kc y (by omega)], fun y hy => by rw [K2.1 y (by omega) (by omega) (by omega), km.1 y (by omega) (by omega)]⟩
        · unfold f_X9_write
          rw [g1, zbS, bitR, bit0, if_pos c1, q_isKey hv2, zbS, bitR, bit0, if_pos c2, q_in hv3 (by decide) (by decide), zbS, bitR, bit0, if_pos c3, s1, zbS, i1, zbS]
        · unfold f_X10_write
          rw [g2, zbS, bitR, bit0, if_pos c1, p_isKey hv2, zbS, bitR, bit0, if_pos c2, p_in hv3 (by decide) (by decide), zbS, bitR, bit0, if_pos c3, s2, zbS, if_pos (by omega), zltS, i2, zbS]
      · refine call_no I (x := -2) ?_ ?_
        · unfold f_X9_write
          rw [g1, zbS, bitR, bit0, if_pos c1, q_isKey hv2, zbS, bitR, bit0, if_pos c2, q_in hv3 (by decide) (by decide), zbS, bitR, bit0, if_neg c3]
        · unfold f_X10_write
          rw [g2, zbS, bitR, bit0, if_pos c1, p_isKey hv2, zbS, bitR, bit0, if_pos c2, p_in hv3 (by decide) (by decide), zbS, bitR, bit0, if_neg c3]
    · refine call_no I (x := -1) ?_ ?_
      · unfold f_X9_write f_X9_write_b15
        rw [g1, zbS, bitR, bit0, if_pos c1, q_isKey hv2, zbS, bitR, bit0, if_neg c2]
      · unfold f_X10_write f_X10_write_b15
        rw [g2, zbS, bitR, bit0, if_pos c1, p_isKey hv2, zbS, bitR, bit0, if_neg c2]
  · refine call_no I (x := -1) ?_ ?_
    · unfold f_X9_write f_X9_write_b15
      rw [g1, zbS, bitR, bit0, if_neg c1]
    · unfold f_X10_write f_X10_write_b15
      rw [g2, zbS, bitR, bit0, if_neg c1]
theorem ReqL_in {c : Nat → Int} {n : Nat} {R K V : Nat → Int} : ∀ (d t p : Nat), ReqL c n R K V d t p → ∀ j, j < d → inR (R (t + j)) ∧ inR (K (t + j)) := by
  intro d
  induction d with
  | zero => intro t p h; exact h.elim
  | succ d ih =>
    intro t p h j hj
    obtain ⟨e, o1, o2⟩ := h
    have h44 : e < n → c e = 44 := fun q => by rcases o2 with o2 | o2; omega; exact o2.2.2.1
    obtain ⟨w1, w2, -⟩ := one_ok o1 h44
    have hrd := o1.2.2.1
    by_cases e0 : j = 0
    · rw [e0, Nat.add_zero]
      exact ⟨by omega, by omega⟩
    · rcases o2 with ⟨o2, -⟩ | ⟨-, -, -, o5⟩
      · omega
      · have := ih (t + 1) (e + 1) o5 (j - 1) (by omega)
        rw [show t + 1 + (j - 1) = t + j by omega] at this
        exact this
theorem c_readRequests : CallOK f_X9_readRequests f_X10_readRequests := by
  intro B M Q I hB
  obtain ⟨n, c, T, U⟩ := I.2.2.2.2
  obtain ⟨x, M', Q', p1, p2, ⟨w, k, z, q1, q2, -⟩, ⟨p4, p5⟩, p6⟩ := x_parse T U
  have I' : Inv2 B M' Q' := Inv2_op I (Int.le_refl _) (r' := Q 216) (ST_kp I.2.1.1 (c := 210) (n := 4) (fun y hy => p4 y (by omega)) (by decide)) I.2.1.2.1 I.2.1.2.2 (q1 216 (by decide)) (fun _ _ _ => rfl) (fun y hy => p4 y (by omega)) p5 (fun j hj => q2 j (by omega)) (q1 217 (by decide))
  have U' : TQ Q' n c := ⟨by rw [q2 4 (by decide)]; exact U.1, U.2.1, fun j hj => by rw [q1 217 (by decide)]; exact U.2.2.1 j hj, U.2.2.2⟩
  have kM : ∀ y, 215 ≤ y → M' y = M y := fun y hy => p4 y (by omega)
  have kQ : ∀ y, y < 215 → Q' y = Q y := fun y hy => q1 y (by omega)
  rcases p6 with p6 | ⟨rfl, d, d1, d2, d3⟩
  · refine ⟨-100 - x, M', Q', ?_, ?_, Inv2_B I' (by omega), kM, kQ⟩
    · unfold f_X9_readRequests
      rw [p1, zbS, if_pos (by omega), if_neg (by omega)]
    · unfold f_X10_readRequests
      rw [p2, zbS, if_pos (by omega), if_neg (by omega)]
  · have hq := q_known_l (M := M') I'.2.1.1.1 I'.2.1.2.1.1 (D := d) d1 d2 (fun j hj => by have := ReqL_in d 0 0 d3 j hj; rw [Nat.zero_add] at this; exact this) d 0 100000 (by omega) (by omega)
    have hp := p_known_l (Q := Q') rfl I'.2.1.2.1.1 U' d 0 0 100000 1 d3 (by omega) (Or.inr rfl)
    rw [show ((0 : Nat) : Int) = 0 from rfl] at hq hp
    by_cases ak : AK (Q' 216) (M' 211) (M' 212) 0 d
    · obtain ⟨M1, Q1, s1, s2, I1, hr, kc, km⟩ := x_store I'
      have U1 : TQ Q1 n c := ⟨by rw [km.2 4 (by decide)]; exact U'.1, U'.2.1, fun j hj => by rw [km.1 217 (by decide) (by decide)]; exact U'.2.2.1 j hj, U'.2.2.2⟩
      obtain ⟨y, M2, Q2, r2, i1, i2, i3, i4, i5, i6, i7, i8, i9⟩ := x_reqs_l (D := d) d2 d 0 0 100000 100000 0 B M1 Q1 (Q1 216) d3 (by omega) (by omega) (by omega) I1.2.1.1 I1.2.1.2.1 rfl U1 (by rw [kc 210 (by omega)]; exact d1) (kc 211 (by omega)) (kc 212 (by omega)) (kc 213 (by omega)) (fun j hj => by rw [hr 865 (by decide)]; exact ak j hj)
      rw [show ((0 : Nat) : Int) = 0 from rfl] at i1 i2
      refine ⟨y, M2, Q2, ?_, ?_, c_served I1 i3 i4 i5 i6 i7 i8 i9, fun y hy => by rw [i6 y (by omega), kc y (by omega), kM y hy], fun y hy => by rw [i7.1 y (by omega) (by omega) (by omega), km.1 y (by omega) (by omega), kQ y hy]⟩
      · unfold f_X9_readRequests
        rw [p1, zbS, if_pos (by decide), if_pos rfl, hq.2 ak, s1, zbS]
        exact i1
      · unfold f_X10_readRequests f_X10_areKnown
        rw [p2, zbS, if_pos (by decide), if_pos (by decide), hp.2 ⟨rfl, ak⟩, zbS, if_pos (by decide), if_neg (by decide), s2, zbS]
        exact i2
    · refine ⟨-1, M', Q', ?_, ?_, Inv2_B I' (by omega), kM, kQ⟩
      · unfold f_X9_readRequests
        rw [p1, zbS, if_pos (by decide), if_pos rfl, hq.1 ak]
      · unfold f_X10_readRequests f_X10_areKnown
        rw [p2, zbS, if_pos (by decide), if_pos (by decide), hp.1 (fun q => ak q.2), zbS, if_pos (by decide), if_pos rfl]

/-! the class serves a reader: the row behind it -/
def srvF (r : Row) (i key v3 ho cr : Int) (S N : Nat) : Row := if v3 = -1 then rchF r i (key.tdiv 16) ho cr S N else up (rchF r i (key.tdiv 16) ho cr S N) (464 + key).toNat v3
theorem q_serve {B : Int} {M M1 : Mem} {r : Row} (hS : ST M 1 r) (W : WF B r) {i key v3 : Int} (hi : 0 ≤ i ∧ i < r 865) (hk : 0 ≤ key ∧ key < 256) (hv : v3 = -1 ∨ (0 ≤ v3 ∧ v3 ≤ 9999)) {A S s : Nat} {cr : Int} {N : Nat} (hN : r 863 = N) (h8 : N ≤ 8) (f1 : f_X6_find 1 i (key.tdiv 16) M = some (0, M1)) (hR : RT r (key.tdiv 16) M1 A S s cr) (f4 : Kp 206 4 M M1) : ∃ M', f_X9_serve i key v3 M = some ((s : Int) + cr * r 863, M') ∧ ST M' 1 (srvF r i key v3 ((s : Int) + cr * r 863) cr S N) ∧ ∀ x, x = 0 ∨ (29 ≤ x ∧ x < 206) ∨ 210 ≤ x → M' x = M x := by
  have hnr := WF1_nr W.1
  have hn := WF1_n W.1
  have hi6 : 0 ≤ i ∧ i < 6 := by omega
  have hx2 : key.tdiv 16 = key / 16 := Int.tdiv_eq_ediv_of_nonneg hk.1
  have hh : 0 ≤ key.tdiv 16 ∧ key.tdiv 16 < 16 := by omega
  obtain ⟨⟨z1, z1'⟩, z3', -, -, ⟨z5, z6⟩, z7, ⟨-, z8⟩, -, -, -, -⟩ := hR
  have hho : 0 ≤ (s : Int) + cr * r 863 ∧ (s : Int) + cr * r 863 ≤ 200 := by
    rcases z6 with e | e
    · rw [e, Int.zero_mul]; omega
    · rw [e, Int.one_mul]; omega
  have hS1 : ST M1 1 r := ST_kp hS f4 (by decide)
  obtain ⟨M2, b1, b2, b3⟩ := q_note hS1 W.1 hi6 hh (ho := (s : Int) + cr * r 863) (cr := cr) z7 z5 hho z6
  have W3 := noteF_wf1 (cr := cr) W.1 hi6 hh hho
  obtain ⟨M3, c1, c2, c3⟩ := q_warm b2 W3 hh
  have c4 : ST M3 1 (sumsF (warmF (noteF r i (key.tdiv 16) ((s : Int) + cr * r 863) cr) (key.tdiv 16)) cr) := by
    unfold sumsF
    exact ⟨ST0_up (ST0_up c2.1 (by decide +kernel)) (by decide +kernel), fun p p0 p1 => by rw [c2.2 p p0 p1]; exact (cntAt_c (fun x hx => by rw [up_ne (by omega), up_ne (by omega)])).symm⟩
  obtain ⟨M4, d1, d2, d3⟩ := q_sent_l (r := sumsF (warmF (noteF r i (key.tdiv 16) ((s : Int) + cr * r 863) cr) (key.tdiv 16)) cr) (S := S) (N := N) (by
    unfold sumsF warmF
    rw [up_ne (by omega), up_ne (by omega), up_ne (by omega), noteF_o hi6 hh (by omega), hN]) h8 N 0 100000 M3 (by omega) (by omega) (by rw [snt_0]; exact c4) (fun x hx => by rw [c3 209 (by omega), b3 209 (by omega)]; exact z3' x hx)
  have a0 : M1 15 (key.tdiv 16).toNat = enc false (r (416 + key.tdiv 16).toNat) := hS1.1.at hh.1 hh.2
  simp only [enc, Bool.false_eq_true, if_false] at a0
  have hnote : f_X7_noteRequest 1 i (key.tdiv 16) M1 = some (0, M4) := by
    unfold f_X7_noteRequest
    rw [if_pos hh, show 1 + 14 = 15 from rfl, show 1 + 21 = 22 from rfl, a0, b1, zbS, show 1 + 13 = 14 from rfl, show 1 + 1 = 2 from rfl, c1, zbS]
    exact d1
  have kM : Kp 1 28 M1 M4 := Kp_tr (Kp_tr b3 c3) d3
  have e206 : M4 206 0 = (s : Int) + cr * r 863 := by rw [kM 206 (by omega)]; exact z7
  have kall : ∀ x, x = 0 ∨ (29 ≤ x ∧ x < 206) ∨ 210 ≤ x → M4 x = M x := fun x hx => by rw [kM x (by omega), f4 x (by omega)]
  unfold srvF
  by_cases cv : v3 = -1
  · rw [if_pos cv]
    refine ⟨M4, ?_, d2, kall⟩
    unfold f_X9_serve f_X9_serve_b52
    rw [if_pos (by omega), zltS, f1, zbS, hnote, zbS, if_pos (by omega), if_pos cv, e206]
  · rw [if_neg cv]
    refine ⟨wr M4 18 key.toNat v3, ?_, ST_w d2 (ST0.vals_w d2.1 hk.1 hk.2 rfl) (wr_ne (by decide)) (fun x hx => up_ne (by omega)), fun x hx => by rw [wr_ne (by omega)]; exact kall x hx⟩
    unfold f_X9_serve f_X9_serve_b52
    rw [if_pos (by omega), zltS, f1, zbS, hnote, zbS, if_pos (by omega), if_neg cv, if_pos (by omega), zltS, wr_ne (by decide), e206]
theorem srvF_ok {B : Int} {r : Row} (W : WF B r) (X : WX r) {i key v3 ho cr : Int} {S N : Nat} (hi : 0 ≤ i ∧ i < r 865) (hk : 0 ≤ key ∧ key < 256) (hho : 0 ≤ ho ∧ ho ≤ 200) (h8 : N ≤ 8) : WF B (srvF r i key v3 ho cr S N) ∧ WX (srvF r i key v3 ho cr S N) ∧ srvF r i key v3 ho cr S N 862 = r 862 ∧ srvF r i key v3 ho cr S N 865 = r 865 := by
  have hnr := WF1_nr W.1
  have hi6 : 0 ≤ i ∧ i < 6 := by omega
  have hx2 : key.tdiv 16 = key / 16 := Int.tdiv_eq_ediv_of_nonneg hk.1
  have hh : 0 ≤ key.tdiv 16 ∧ key.tdiv 16 < 16 := by omega
  have w1 := rchF_wf (S := S) (N := N) (cr := cr) W hi hh hho h8
  have x1 := rchF_wx (S := S) (N := N) (cr := cr) (ho := ho) W X hi6 hh h8
  unfold srvF
  by_cases cv : v3 = -1
  · rw [if_pos cv]
    exact ⟨w1, x1, rchF_o hi6 hh h8 (by omega), rchF_o hi6 hh h8 (by omega)⟩
  · rw [if_neg cv]
    refine ⟨⟨WF1_vals_w w1.1 hk.1 hk.2, WF2_c (by have := WF1_n w1.1; omega) (fun j hj => up_ne (by omega)) w1.2.1, WF3_c (WF1_nr w1.1).1 (fun j j1 j2 j3 j4 => up_ne (by omega)) w1.2.2⟩, WX_c w1.1 (fun j hj => up_ne (by omega)) x1, ?_, ?_⟩
    · rw [up_ne (by omega)]; exact rchF_o hi6 hh h8 (by omega)
    · rw [up_ne (by omega)]; exact rchF_o hi6 hh h8 (by omega)
theorem ho_b {r : Row} {h : Int} {M : Mem} {A S s : Nat} {cr : Int} {B : Int} (W : WF1 B r) (hR : RT r h M A S s cr) : 0 ≤ (s : Int) + cr * r 863 ∧ (s : Int) + cr * r 863 ≤ 200 := by
  have hn := WF1_n W
  obtain ⟨-, -, -, -, ⟨-, z6⟩, -, ⟨-, z8⟩, -, -, -, -⟩ := hR
  rcases z6 with e | e
  · rw [e, Int.zero_mul]; omega
  · rw [e, Int.one_mul]; omega
/-- a request or a write, once the way is known -/
theorem q_served {B : Int} {M : Mem} {r : Row} (I : Inv B M r) {i key v3 : Int} (hi : 0 ≤ i ∧ i < r 865) (hk : 0 ≤ key ∧ key < 256) (hv : v3 = -1 ∨ (0 ≤ v3 ∧ v3 ≤ 9999)) {A S s : Nat} {cr : Int} {N : Nat} (hN : r 863 = N) (key0 : ∀ M, ST M 1 r → ∃ M', f_X6_find 1 i (key.tdiv 16) M = some (0, M') ∧ RT r (key.tdiv 16) M' A S s cr ∧ Kp 206 4 M M') : ∃ M1 M', f_X1_store 1 M = some (0, M1) ∧ f_X9_serve i key v3 M1 = some ((s : Int) + cr * r 863, M') ∧ (0 ≤ (s : Int) + cr * r 863 ∧ (s : Int) + cr * r 863 ≤ 200) ∧ Inv (B + 1000) M' (srvF r i key v3 ((s : Int) + cr * r 863) cr S N) ∧ Top (B + 1000) M' r ∧ srvF r i key v3 ((s : Int) + cr * r 863) cr S N 862 = r 862 ∧ srvF r i key v3 ((s : Int) + cr * r 863) cr S N 865 = r 865 ∧ ∀ y, y = 0 ∨ (59 ≤ y ∧ y < 88) → M' y = M y := by
  have W := I.2.1.2.1
  have hn := WF1_n W.1
  obtain ⟨M1, s1, I1, T1, kc⟩ := q_store I
  obtain ⟨M2, f1, hR, f4⟩ := key0 M1 I1.2.1.1
  have hb := ho_b W.1 hR
  obtain ⟨M', g1, g2, g3⟩ := q_serve I1.2.1.1 W hi hk hv hN (by omega) f1 hR f4
  obtain ⟨w1, w2, w3, w4⟩ := srvF_ok (v3 := v3) (cr := cr) (S := S) (N := N) W I.2.1.2.2.2 hi hk hb (by omega)
  exact ⟨M1, M', s1, g1, hb, Inv_op I1 (by omega) ⟨g2, WF_B w1 (by omega), by rw [w3]; exact I.2.1.2.2.1, w2⟩ (fun y hy => g3 y (by omega)), Top_to T1 (by omega) (fun y h1 h2 => g3 y (by omega)), w3, w4, fun y hy => by rw [g3 y (by omega), kc y (by omega)]⟩
theorem a_request {v1 v2 : Int} (hv1 : inR v1) (hv2 : inR v2) : Act 0 (f_X9_request v1 v2) := by
  intro B M r I hB
  have g1 := jR I hv1
  have W := I.2.1.2.1
  have hnr := WF1_nr W.1
  have hn := WF1_n W.1
  by_cases c1 : 0 ≤ v1 ∧ v1 < r 865
  · by_cases c2 : 0 ≤ v2 ∧ v2 < 256
    · have hx2 : v2.tdiv 16 = v2 / 16 := Int.tdiv_eq_ediv_of_nonneg c2.1
      obtain ⟨A, S, s, cr, pl, key⟩ := q_find W (i := v1) (h := v2.tdiv 16) (by omega) (by omega)
      obtain ⟨M1, M', e1, e2, e3, e4, e5, e6, e7, e8⟩ := q_served I c1 c2 (v3 := -1) (Or.inl rfl) (N := (r 863).toNat) (by omega) (fun M hM => by
        obtain ⟨M', k1, k2, k3, -⟩ := key M hM
        exact ⟨M', k1, k2, k3⟩)
      refine ⟨(s : Int) + cr * r 863, M', _, ?_, ⟨by omega, by omega⟩, e4, fun h => by omega, fun _ => e5, by omega, by omega, e8⟩
      unfold f_X9_request
      rw [g1, zbS, bitR, bit0, if_pos c1, q_isKey hv2, zbS, bitR, bit0, if_pos c2, e1, zbS, e2, zbS]
    · refine act_no I (by decide) (x := -1) (by decide) ?_
      unfold f_X9_request f_X9_request_b15
      rw [g1, zbS, bitR, bit0, if_pos c1, q_isKey hv2, zbS, bitR, bit0, if_neg c2]
  · refine act_no I (by decide) (x := -1) (by decide) ?_
    unfold f_X9_request f_X9_request_b15
    rw [g1, zbS, bitR, bit0, if_neg c1]
theorem a_write {v1 v2 v3 : Int} (hv1 : inR v1) (hv2 : inR v2) (hv3 : inR v3) : Act 0 (f_X9_write v1 v2 v3) := by
  intro B M r I hB
  have g1 := jR I hv1
  have W := I.2.1.2.1
  have hnr := WF1_nr W.1
  have hn := WF1_n W.1
  by_cases c1 : 0 ≤ v1 ∧ v1 < r 865
  · by_cases c2 : 0 ≤ v2 ∧ v2 < 256
    · by_cases c3 : 0 ≤ v3 ∧ v3 ≤ 9999
      · have hx2 : v2.tdiv 16 = v2 / 16 := Int.tdiv_eq_ediv_of_nonneg c2.1
        obtain ⟨A, S, s, cr, pl, key⟩ := q_find W (i := v1) (h := v2.tdiv 16) (by omega) (by omega)
        obtain ⟨M1, M', e1, e2, e3, e4, e5, e6, e7, e8⟩ := q_served I c1 c2 (v3 := v3) (Or.inr c3) (N := (r 863).toNat) (by omega) (fun M hM => by
          obtain ⟨M', k1, k2, k3, -⟩ := key M hM
          exact ⟨M', k1, k2, k3⟩)
        refine ⟨(s : Int) + cr * r 863, M', _, ?_, ⟨by omega, by omega⟩, e4, fun h => by omega, fun _ => e5, by omega, by omega, e8⟩
        unfold f_X9_write
        rw [g1, zbS, bitR, bit0, if_pos c1, q_isKey hv2, zbS, bitR, bit0, if_pos c2, q_in hv3 (by decide) (by decide), zbS, bitR, bit0, if_pos c3, e1, zbS, e2, zbS]
      · refine act_no I (by decide) (x := -2) (by decide) ?_
        unfold f_X9_write
        rw [g1, zbS, bitR, bit0, if_pos c1, q_isKey hv2, zbS, bitR, bit0, if_pos c2, q_in hv3 (by decide) (by decide), zbS, bitR, bit0, if_neg c3]
    · refine act_no I (by decide) (x := -1) (by decide) ?_
      unfold f_X9_write f_X9_write_b15
      rw [g1, zbS, bitR, bit0, if_pos c1, q_isKey hv2, zbS, bitR, bit0, if_neg c2]
  · refine act_no I (by decide) (x := -1) (by decide) ?_
    unfold f_X9_write f_X9_write_b15
    rw [g1, zbS, bitR, bit0, if_neg c1]
/-- what reach tells, in the order of its numbers -/
def rchV (r : Row) (A S s : Nat) (cr : Int) (w : Int) : Int := if w = 0 then (s : Int) + cr * r 863 else if w = 1 then (s : Int) - pop A - pop S else if w = 2 then pop A else if w = 3 then pop S else cr
theorem q_reach {B : Int} {M : Mem} {r : Row} (I : Inv B M r) {i key : Int} (hi : 0 ≤ i ∧ i < r 865) (hk : 0 ≤ key ∧ key < 256) {A S s : Nat} {cr : Int} (key0 : ∀ M, ST M 1 r → ∃ M', f_X6_find 1 i (key.tdiv 16) M = some (0, M') ∧ RT r (key.tdiv 16) M' A S s cr ∧ Kp 206 4 M M') {w : Int} (hw : 0 ≤ w ∧ w ≤ 4) : ∃ M', f_X9_reach i key w M = some (rchV r A S s cr w, M') ∧ Kp 206 4 M M' := by
  have W := I.2.1.2.1
  have hnr := WF1_nr W.1
  have hk2 : inR key := ⟨by omega, by omega⟩
  have g1 := jR I (v := i) ⟨by omega, by omega⟩
  obtain ⟨M', f1, hR, f4⟩ := key0 M I.2.1.1
  obtain ⟨-, -, ⟨z2, z3⟩, z4, ⟨z5, z6⟩, z7, -, -, -, -, -⟩ := hR
  refine ⟨M', ?_, f4⟩
  unfold f_X9_reach f_X9_reach_b115 rchV
  rw [g1, zbS, bitR, bit0, if_pos hi, q_isKey hk2, zbS, bitR, bit0, if_pos hk, if_pos hk2, f1, zbS, if_pos (by omega)]
  by_cases w0 : w = 0
  · rw [if_pos w0, if_pos w0, z7]
  rw [if_neg w0, if_neg w0]
  by_cases w1 : w = 1
  · rw [if_pos w1, if_pos w1, show M' 206 1 = (s : Int) - pop A - pop S by omega]
  rw [if_neg w1, if_neg w1]
  by_cases w2 : w = 2
  · rw [if_pos w2, if_pos w2, z2]
  rw [if_neg w2, if_neg w2]
  by_cases w3 : w = 3
  · rw [if_pos w3, if_pos w3, z3]
  rw [if_neg w3, if_neg w3, if_pos (by omega), z5]
  rcases z6 with e | e
  · rw [e, if_pos (by decide), if_pos rfl]
  · rw [e, if_pos (by decide), if_neg (by decide)]
theorem q_wayk {B : Int} {M : Mem} {r : Row} (I : Inv B M r) {i key : Int} (hi : 0 ≤ i ∧ i < r 865) (hk : 0 ≤ key ∧ key < 256) {A S s : Nat} {cr : Int} {pl : Nat → Int} (key0 : ∀ M, ST M 1 r → ∃ M', f_X6_find 1 i (key.tdiv 16) M = some (0, M') ∧ RT r (key.tdiv 16) M' A S s cr ∧ Kp 206 4 M M' ∧ ∀ t : Nat, (t : Int) ≤ s + cr → M' 207 t = pl t) {w : Int} (hw : 0 ≤ w ∧ w ≤ 1000) : ∃ M', f_X9_way i key w M = some (if w ≤ (s : Int) + cr then pl w.toNat else -5, M') ∧ Kp 206 4 M M' := by
  have W := I.2.1.2.1
  have hnr := WF1_nr W.1
  have hk2 : inR key := ⟨by omega, by omega⟩
  have g1 := jR I (v := i) ⟨by omega, by omega⟩
  obtain ⟨M', f1, hR, f4, f5⟩ := key0 M I.2.1.1
  obtain ⟨-, -, -, -, ⟨z5, z6⟩, -, ⟨z8, z8'⟩, -, -, -, -⟩ := hR
  refine ⟨M', ?_, f4⟩
  unfold f_X9_way f_X9_way_b65
  rw [g1, zbS, bitR, bit0, if_pos hi, q_isKey hk2, zbS, bitR, bit0, if_pos hk, if_pos (by omega), if_pos hw.1, if_pos hk2, f1, zbS, z8, if_pos (by omega)]
  by_cases c : w ≤ (s : Int) + cr
  · rw [if_pos c, if_neg (by omega), if_pos (by omega), f5 w.toNat (by omega)]
  · rw [if_neg c, if_pos (by omega)]

/-! the row of the class behind its constructor -/
def z0r : Row := fun j => match kap j with
  | some (o, p, d) => if d then (if zM0 (1 + o) p = -5 then 0 else zM0 (1 + o) p + 1) else zM0 (1 + o) p
  | none => 0
set_option maxRecDepth 100000 in
theorem z0_st : ∀ j, j < 871 → (kap j).all (fun q => decide (zM0 (1 + q.1) q.2.1 = enc q.2.2 (z0r j))) = true := by decide +kernel
theorem z0_herd : ∀ p, p < 8 → zM0 7 p = cntAt (z0r) (p : Int) 16 := by decide +kernel
theorem z0_n : z0r 863 = 1 ∧ z0r 862 = 0 ∧ z0r 866 = 0 ∧ z0r 869 = 0 ∧ z0r 870 = 0 ∧ zM0 88 0 = 0 ∧ zM0 88 1 = 0 ∧ zM0 0 6 = 0 := by decide +kernel
set_option maxRecDepth 100000 in
theorem z0_1 : ∀ j, j < 871 → 32 ≤ j → j < 852 → z0r j = 0 := by decide +kernel
theorem z0_2 : ∀ j, j < 32 → (if j % 4 = 0 then 0 ≤ z0r j ∧ z0r j ≤ 90 else if j % 4 = 1 then 0 ≤ z0r j ∧ z0r j ≤ 16 else if j % 4 = 2 then 0 ≤ z0r j ∧ z0r j ≤ 1 else True) := by decide +kernel
theorem z0_3 : ∀ j, j < 4 → 0 ≤ z0r (852 + j) ∧ z0r (852 + j) ≤ 90 := by decide +kernel
theorem z0_4 : (1 ≤ z0r 856 ∧ z0r 856 ≤ 30) ∧ (1 ≤ z0r 857 ∧ z0r 857 ≤ 60) ∧ (1 ≤ z0r 858 ∧ z0r 858 ≤ 90) ∧ (0 ≤ z0r 859 ∧ z0r 859 ≤ 16) ∧ (1 ≤ z0r 860 ∧ z0r 860 ≤ 30) ∧ (0 ≤ z0r 861 ∧ z0r 861 ≤ 100) ∧ (0 ≤ z0r 862 ∧ z0r 862 ≤ 10100) ∧ (1 ≤ z0r 863 ∧ z0r 863 ≤ 8) ∧ (0 ≤ z0r 864 ∧ z0r 864 ≤ 3) ∧ (0 ≤ z0r 865 ∧ z0r 865 ≤ 6) := by decide +kernel
set_option maxRecDepth 20000 in
theorem z0_w : ∀ j, j < 871 → okV 1 0 j (z0r j) := by
  intro j hj
  unfold okV
  by_cases c0 : j < 32
  · rw [if_pos c0]; exact z0_2 j c0
  rw [if_neg c0]
  by_cases c160 : j < 160
  · rw [if_pos c160, z0_1 j hj (by omega) (by omega)]; decide
  rw [if_neg c160]
  by_cases c288 : j < 288
  · rw [if_pos c288, z0_1 j hj (by omega) (by omega)]; decide
  rw [if_neg c288]
  by_cases c416 : j < 416
  · rw [if_pos c416, z0_1 j hj (by omega) (by omega)]; decide
  rw [if_neg c416]
  by_cases c432 : j < 432
  · rw [if_pos c432, z0_1 j hj (by omega) (by omega)]; decide
  rw [if_neg c432]
  by_cases c448 : j < 448
  · rw [if_pos c448, z0_1 j hj (by omega) (by omega)]; decide
  rw [if_neg c448]
  by_cases c464 : j < 464
  · rw [if_pos c464, z0_1 j hj (by omega) (by omega)]; decide
  rw [if_neg c464]
  by_cases c720 : j < 720
  · rw [if_pos c720]; trivial
  rw [if_neg c720]
  by_cases c726 : j < 726
  · rw [if_pos c726, z0_1 j hj (by omega) (by omega)]; by_cases q : j % 2 = 0
    · rw [if_pos q]; decide
    · rw [if_neg q]; decide
  rw [if_neg c726]
  by_cases c756 : j < 756
  · rw [if_pos c756, z0_1 j hj (by omega) (by omega)]; by_cases q : (j - 726) % 5 = 0
    · rw [if_pos q]; decide
    · rw [if_neg q]; by_cases q2 : (j - 726) % 5 = 4
      · rw [if_pos q2]; decide
      · rw [if_neg q2]; trivial
  rw [if_neg c756]
  by_cases c852 : j < 852
  · rw [if_pos c852, z0_1 j hj (by omega) (by omega)]; decide
  rw [if_neg c852]
  by_cases c856 : j < 856
  · have h := z0_3 (j - 852) (by omega)
    rw [if_pos c856]
    rw [show 852 + (j - 852) = j by omega] at h
    exact h
  rw [if_neg c856]
  obtain ⟨h0, h1, h2, h3, h4, h5, h6, h7, h8, h9⟩ := z0_4
  by_cases d856 : j = 856
  · rw [if_pos d856, d856]; exact h0
  rw [if_neg d856]
  by_cases d857 : j = 857
  · rw [if_pos d857, d857]; exact h1
  rw [if_neg d857]
  by_cases d858 : j = 858
  · rw [if_pos d858, d858]; exact h2
  rw [if_neg d858]
  by_cases d859 : j = 859
  · rw [if_pos d859, d859]; exact h3
  rw [if_neg d859]
  by_cases d860 : j = 860
  · rw [if_pos d860, d860]; exact h4
  rw [if_neg d860]
  by_cases d861 : j = 861
  · rw [if_pos d861, d861]; exact h5
  rw [if_neg d861]
  by_cases d862 : j = 862
  · rw [if_pos d862, d862]; exact h6
  rw [if_neg d862]
  by_cases d863 : j = 863
  · rw [if_pos d863, d863]; exact h7
  rw [if_neg d863]
  by_cases d864 : j = 864
  · rw [if_pos d864, d864]; exact h8
  rw [if_neg d864]
  by_cases d865 : j = 865
  · rw [if_pos d865, d865]; exact h9
  rw [if_neg d865]
  trivial
set_option maxRecDepth 100000 in
theorem z0_0 : ∀ j, j < 871 → (j < 32 ∧ j % 4 = 2) ∨ (32 ≤ j ∧ j < 416) ∨ (448 ≤ j ∧ j < 464) ∨ (726 ≤ j ∧ j < 756) → z0r j = 0 := by decide +kernel
theorem z0_wf : WF 0 (z0r) := by
  refine ⟨fun j hj => ?_, ⟨fun p y p0 p1 y0 y1 h => ?_, fun p y p0 p1 y0 y1 h => ?_, fun p y p0 p1 y0 y1 => ⟨?_, ?_⟩, ⟨fun _ _ => 0, fun p y p0 p1 y0 y1 h => ?_⟩⟩, ?_, ?_, ?_, fun i i0 i1 => ?_⟩
  · rw [z0_n.1]; exact z0_w j hj
  · exact absurd (z0_0 _ (by omega) (by omega)) h
  · exact z0_0 _ (by omega) (by omega)
  · rw [z0_n.1] at p0
    exact z0_0 _ (by omega) (by omega)
  · rw [z0_n.1] at p0
    exact z0_0 _ (by omega) (by omega)
  · exact absurd (z0_0 _ (by omega) (by omega)) h
  · rw [z0_n.2.2.1]
    exact (sumN_0 (fun k hk => z0_0 _ (by omega) (by omega))).symm
  · rw [z0_n.2.2.2.1]
    exact (sumN_0 (fun k hk => z0_0 _ (by omega) (by omega))).symm
  · rw [z0_n.2.2.2.2.1]
    exact (sumN_0 (fun k hk => z0_0 _ (by omega) (by omega))).symm
  · have hr := z0_w 865 (by decide)
    have hr2 : 0 ≤ z0r 865 ∧ z0r 865 ≤ 6 := hr
    exact ⟨z0_0 _ (by omega) (by omega), z0_0 _ (by omega) (by omega)⟩
theorem z0_b : ∀ p : Nat, p < 8 → cntAt z0r (p : Int) 16 ≤ z0r ((0 + 4 * (p : Int)) + 1).toNat := by decide +kernel
theorem z0_wx : WX z0r := by
  have z : ∀ j, 32 ≤ j → j < 852 → z0r j = 0 := fun j h1 h2 => z0_1 j (by omega) h1 h2
  refine ⟨fun h h0 h1 => ?_, fun p p0 p1 => ?_, fun p h p0 p1 h0 h1 c => ?_⟩
  · rw [z (416 + h).toNat (by omega) (by omega)]
    exact z _ (by omega) (by omega)
  · have h := z0_b p.toNat (by omega)
    rw [show ((p.toNat : Nat) : Int) = p by omega] at h
    exact h
  · exact absurd (z _ (by omega) (by omega)) c
theorem z0_inv : Inv 0 zM0 z0r := by
  obtain ⟨h1, h2, h3, h4, h5, h6, h7, h8⟩ := z0_n
  refine ⟨Int.le_refl _, ⟨⟨fun j hj o p d hk => ?_, fun p p0 p1 => ?_⟩, z0_wf, by rw [h2]; decide, z0_wx⟩, ⟨0, 0, h6, h7, by decide, by decide, fun k hk => absurd hk (by omega)⟩, Or.inl h8⟩
  · have h := z0_st j hj
    rw [hk] at h
    exact of_decide_eq_true h
  · have h := z0_herd p.toNat (by omega)
    rw [show ((p.toNat : Nat) : Int) = p by omega] at h
    exact h
theorem pureLaw : PureLaw := by
  intro xs L hL hx
  obtain ⟨x, l1, hx3⟩ := q_low (v := zcell xs L 0) (n := 3) (by decide) zM0
  obtain ⟨n, hn⟩ : ∃ n : Nat, 2 + x = (n : Int) := ⟨(2 + x).toNat, by omega⟩
  obtain ⟨M', e⟩ := law_25 xs L (z := zcell xs L 0) (n := n) (by omega) (n - 1) 1 100000 1000 zM0 z0r (by omega) (by omega) (Inv_to z0_inv (by decide) (fun _ _ => rfl)) (by decide) (by rw [z0_n.2.1]; decide)
  refine ⟨M', ?_⟩
  unfold f_L_law
  rw [zltS, l1, zbS, zltS, hn]
  exact e

set_option maxRecDepth 100000 in
theorem z0_st : ∀ j, j < 871 → (kap j).all (fun q => decide (zM0 (1 + q.1) q.2.1 = enc q.2.2 (zM0 216 j))) = true := by decide +kernel
theorem z0_herd : ∀ p, p < 8 → zM0 7 p = cntAt (zM0 216) (p : Int) 16 := by decide +kernel
theorem z0_n : zM0 216 863 = 1 ∧ zM0 216 862 = 0 ∧ zM0 216 866 = 0 ∧ zM0 216 869 = 0 ∧ zM0 216 870 = 0 ∧ zM0 88 0 = 0 ∧ zM0 88 1 = 0 ∧ zM0 215 1 = 0 ∧ zM0 0 6 = 0 ∧ zM0 215 2 = 0 ∧ zM0 210 0 = 0 ∧ zM0 215 4 = 0 := by decide +kernel
theorem z0_c : ∀ j, j < 60 → zM0 214 j = 0 ∧ zM0 217 j = 0 := by decide +kernel
set_option maxRecDepth 100000 in
theorem z0_1 : ∀ j, j < 871 → 32 ≤ j → j < 852 → zM0 216 j = 0 := by decide +kernel
theorem z0_2 : ∀ j, j < 32 → (if j % 4 = 0 then 0 ≤ zM0 216 j ∧ zM0 216 j ≤ 90 else if j % 4 = 1 then 0 ≤ zM0 216 j ∧ zM0 216 j ≤ 16 else if j % 4 = 2 then 0 ≤ zM0 216 j ∧ zM0 216 j ≤ 1 else True) := by decide +kernel
theorem z0_3 : ∀ j, j < 4 → 0 ≤ zM0 216 (852 + j) ∧ zM0 216 (852 + j) ≤ 90 := by decide +kernel
theorem z0_4 : (1 ≤ zM0 216 856 ∧ zM0 216 856 ≤ 30) ∧ (1 ≤ zM0 216 857 ∧ zM0 216 857 ≤ 60) ∧ (1 ≤ zM0 216 858 ∧ zM0 216 858 ≤ 90) ∧ (0 ≤ zM0 216 859 ∧ zM0 216 859 ≤ 16) ∧ (1 ≤ zM0 216 860 ∧ zM0 216 860 ≤ 30) ∧ (0 ≤ zM0 216 861 ∧ zM0 216 861 ≤ 100) ∧ (0 ≤ zM0 216 862 ∧ zM0 216 862 ≤ 10100) ∧ (1 ≤ zM0 216 863 ∧ zM0 216 863 ≤ 8) ∧ (0 ≤ zM0 216 864 ∧ zM0 216 864 ≤ 3) ∧ (0 ≤ zM0 216 865 ∧ zM0 216 865 ≤ 6) := by decide +kernel
set_option maxRecDepth 20000 in
theorem z0_w : ∀ j, j < 871 → okV 1 0 j (zM0 216 j) := by
  intro j hj
  unfold okV
  by_cases c0 : j < 32
  · rw [if_pos c0]; exact z0_2 j c0
  rw [if_neg c0]
  by_cases c160 : j < 160
  · rw [if_pos c160, z0_1 j hj (by omega) (by omega)]; decide
  rw [if_neg c160]
  by_cases c288 : j < 288
  · rw [if_pos c288, z0_1 j hj (by omega) (by omega)]; decide
  rw [if_neg c288]
  by_cases c416 : j < 416
  · rw [if_pos c416, z0_1 j hj (by omega) (by omega)]; decide
  rw [if_neg c416]
  by_cases c432 : j < 432
  · rw [if_pos c432, z0_1 j hj (by omega) (by omega)]; decide
  rw [if_neg c432]
  by_cases c448 : j < 448
  · rw [if_pos c448, z0_1 j hj (by omega) (by omega)]; decide
  rw [if_neg c448]
  by_cases c464 : j < 464
  · rw [if_pos c464, z0_1 j hj (by omega) (by omega)]; decide
  rw [if_neg c464]
  by_cases c720 : j < 720
  · rw [if_pos c720]; trivial
  rw [if_neg c720]
  by_cases c726 : j < 726
  · rw [if_pos c726, z0_1 j hj (by omega) (by omega)]; by_cases q : j % 2 = 0
    · rw [if_pos q]; decide
    · rw [if_neg q]; decide
  rw [if_neg c726]
  by_cases c756 : j < 756
  · rw [if_pos c756, z0_1 j hj (by omega) (by omega)]; by_cases q : (j - 726) % 5 = 0
    · rw [if_pos q]; decide
    · rw [if_neg q]; by_cases q2 : (j - 726) % 5 = 4
      · rw [if_pos q2]; decide
      · rw [if_neg q2]; trivial
  rw [if_neg c756]
  by_cases c852 : j < 852
  · rw [if_pos c852, z0_1 j hj (by omega) (by omega)]; decide
  rw [if_neg c852]
  by_cases c856 : j < 856
  · have h := z0_3 (j - 852) (by omega)
    rw [if_pos c856]
    rw [show 852 + (j - 852) = j by omega] at h
    exact h
  rw [if_neg c856]
  obtain ⟨h0, h1, h2, h3, h4, h5, h6, h7, h8, h9⟩ := z0_4
  by_cases d856 : j = 856
  · rw [if_pos d856, d856]; exact h0
  rw [if_neg d856]
  by_cases d857 : j = 857
  · rw [if_pos d857, d857]; exact h1
  rw [if_neg d857]
  by_cases d858 : j = 858
  · rw [if_pos d858, d858]; exact h2
  rw [if_neg d858]
  by_cases d859 : j = 859
  · rw [if_pos d859, d859]; exact h3
  rw [if_neg d859]
  by_cases d860 : j = 860
  · rw [if_pos d860, d860]; exact h4
  rw [if_neg d860]
  by_cases d861 : j = 861
  · rw [if_pos d861, d861]; exact h5
  rw [if_neg d861]
  by_cases d862 : j = 862
  · rw [if_pos d862, d862]; exact h6
  rw [if_neg d862]
  by_cases d863 : j = 863
  · rw [if_pos d863, d863]; exact h7
  rw [if_neg d863]
  by_cases d864 : j = 864
  · rw [if_pos d864, d864]; exact h8
  rw [if_neg d864]
  by_cases d865 : j = 865
  · rw [if_pos d865, d865]; exact h9
  rw [if_neg d865]
  trivial
set_option maxRecDepth 100000 in
theorem z0_0 : ∀ j, j < 871 → (j < 32 ∧ j % 4 = 2) ∨ (32 ≤ j ∧ j < 416) ∨ (448 ≤ j ∧ j < 464) ∨ (726 ≤ j ∧ j < 756) → zM0 216 j = 0 := by decide +kernel
theorem z0_wf : WF 0 (zM0 216) := by
  refine ⟨fun j hj => ?_, ⟨fun p y p0 p1 y0 y1 h => ?_, fun p y p0 p1 y0 y1 h => ?_, fun p y p0 p1 y0 y1 => ⟨?_, ?_⟩, ⟨fun _ _ => 0, fun p y p0 p1 y0 y1 h => ?_⟩⟩, ?_, ?_, ?_, fun i i0 i1 => ?_⟩
  · rw [z0_n.1]; exact z0_w j hj
  · exact absurd (z0_0 _ (by omega) (by omega)) h
  · exact z0_0 _ (by omega) (by omega)
  · rw [z0_n.1] at p0
    exact z0_0 _ (by omega) (by omega)
  · rw [z0_n.1] at p0
    exact z0_0 _ (by omega) (by omega)
  · exact absurd (z0_0 _ (by omega) (by omega)) h
  · rw [z0_n.2.2.1]
    exact (sumN_0 (fun k hk => z0_0 _ (by omega) (by omega))).symm
  · rw [z0_n.2.2.2.1]
    exact (sumN_0 (fun k hk => z0_0 _ (by omega) (by omega))).symm
  · rw [z0_n.2.2.2.2.1]
    exact (sumN_0 (fun k hk => z0_0 _ (by omega) (by omega))).symm
  · have hr := z0_w 865 (by decide)
    have hr2 : 0 ≤ zM0 216 865 ∧ zM0 216 865 ≤ 6 := hr
    exact ⟨z0_0 _ (by omega) (by omega), z0_0 _ (by omega) (by omega)⟩
theorem z0_inv : Inv2 0 zM0 zM0 := by
  obtain ⟨h1, h2, h3, h4, h5, h6, h7, h8, h9, h10, h11, h12⟩ := z0_n
  refine ⟨Int.le_refl _, ⟨⟨fun j hj o p d hk => ?_, fun p p0 p1 => ?_⟩, z0_wf, by rw [h2]; decide⟩, ⟨0, 0, h6, h7, by decide, by decide, h8, fun k hk => absurd hk (by omega)⟩, ⟨by rw [h9, h10], Or.inl h10⟩, ⟨0, fun _ => 0, ⟨h11, by decide, fun j hj => (z0_c j hj).1, fun j hj => (show 0 ≤ (0 : Int) ∧ (0 : Int) ≤ 65535 by decide)⟩, ⟨h12, by decide, fun j hj => (z0_c j hj).2, fun j hj => (show 0 ≤ (0 : Int) ∧ (0 : Int) ≤ 65535 by decide)⟩⟩⟩
  · have h := z0_st j hj
    rw [hk] at h
    exact of_decide_eq_true h
  · have h := z0_herd p.toNat (by omega)
    rw [show ((p.toNat : Nat) : Int) = p by omega] at h
    exact h

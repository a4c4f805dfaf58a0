/-! the law's acts: each of them is an act, by at most five days -/
theorem Act_mono {c c' : Int} {f : Mem → Option (Int × Mem)} (h : Act c f) (hc : c ≤ c') : Act c' f := by
  intro B M r I hB
  obtain ⟨x, M', r', h1, h2, h3, h4, h5, h6, h7, h8⟩ := h B M r I hB
  exact ⟨x, M', r', h1, h2, h3, h4, h5, h6, by omega, h8⟩
theorem zbId (o : Option (Int × Mem)) : zbnd o (fun r M => some (r, M)) = o := by
  cases o with
  | none => rfl
  | some q => rfl
theorem iand_in (a b : Int) : inR (iand a b) := zI_in _
theorem q_acts {B : Int} {M : Mem} {r : Row} (I : Inv B M r) (v1 : Int) : ∃ f, Act 5 f ∧ f_L_acts v1 M = f M := by
  have W := I.2.1.2.1
  have S := I.2.1.1
  have hn := WF1_n W.1
  obtain ⟨p, l1, hp⟩ := q_low (v := ishr v1 5) (n := r 863 + 1) (by omega) M
  obtain ⟨h, l2, hh⟩ := q_low (v := ishr v1 9) (n := 17) (by decide) M
  obtain ⟨q, l3, hq⟩ := q_low (v := v1) (n := 20) (by decide) M
  have hpi : inR p := ⟨by omega, by omega⟩
  have hhi : inR h := ⟨by omega, by omega⟩
  unfold f_L_acts f_L_acts_b156 f_L_acts_b194 f_L_acts_b286 f_L_acts_b300
  rw [t_count S W (by decide), zbS, show cnV r 3 = r 863 from rfl, l1, zbS, l2, zbS, l3, zbS, if_pos (by omega)]
  by_cases e0 : q = 0
  · obtain ⟨a, m1, ha⟩ := q_low (v := ishr v1 9) (n := 92) (by decide) M
    obtain ⟨b, m2, hb⟩ := q_low (v := ishr v1 16) (n := 17) (by decide) M
    rw [if_pos e0, m1, zbS, m2, zbS, if_pos (iand_in _ _)]
    by_cases c : iand (ishr v1 24) 1 = 1
    · rw [if_pos c]
      exact ⟨f_X9_addPasture a (1 + b) 1, Act_mono (a_addPasture ⟨by omega, by omega⟩ ⟨by omega, by omega⟩ (Or.inr rfl)) (by decide), zbId _⟩
    · rw [if_neg c]
      exact ⟨f_X9_addPasture a (1 + b) 0, Act_mono (a_addPasture ⟨by omega, by omega⟩ ⟨by omega, by omega⟩ (Or.inl rfl)) (by decide), zbId _⟩
  rw [if_neg e0]
  by_cases e1 : q = 1
  · rw [if_pos e1, l2, zbS]
    exact ⟨f_X9_setRoom p (1 + h), Act_mono (a_setRoom hpi ⟨by omega, by omega⟩) (by decide), zbId _⟩
  rw [if_neg e1]
  by_cases e2 : q = 2
  · rw [if_pos e2, if_pos (iand_in _ _)]
    by_cases c : iand (ishr v1 9) 1 = 1
    · rw [if_pos c]
      exact ⟨f_X9_setInn p 1, Act_mono (a_setInn hpi (Or.inr rfl)) (by decide), zbId _⟩
    · rw [if_neg c]
      exact ⟨f_X9_setInn p 0, Act_mono (a_setInn hpi (Or.inl rfl)) (by decide), zbId _⟩
  rw [if_neg e2]
  by_cases e3 : q = 3
  · obtain ⟨a, m1, ha⟩ := q_low (v := ishr v1 9) (n := 8) (by decide) M
    rw [if_pos e3, m1, zbS]
    exact ⟨f_X9_addWolf p (1 + a), Act_mono (a_addWolf hpi ⟨by omega, by omega⟩) (by decide), zbId _⟩
  rw [if_neg e3]
  by_cases e4 : q = 4
  · rw [if_pos e4]
    exact ⟨f_X9_driveWolf, Act_mono a_driveWolf (by decide), zbId _⟩
  rw [if_neg e4]
  by_cases e5 : q = 5
  · rw [if_pos e5]
    exact ⟨f_X9_addReader p, Act_mono (a_addReader hpi) (by decide), zbId _⟩
  rw [if_neg e5]
  by_cases e6 : q = 6
  · obtain ⟨a, m1, ha⟩ := q_low (v := ishr v1 5) (n := 5) (by decide) M
    obtain ⟨b, m2, hb⟩ := q_low (v := ishr v1 9) (n := 92) (by decide) M
    rw [if_pos e6, m1, zbS, m2, zbS]
    exact ⟨f_X9_setSeason a b, Act_mono (a_setSeason ⟨by omega, by omega⟩ ⟨by omega, by omega⟩) (by decide), zbId _⟩
  rw [if_neg e6]
  by_cases e7 : q = 7
  · obtain ⟨a, m1, ha⟩ := q_low (v := ishr v1 5) (n := 7) (by decide) M
    obtain ⟨b, m2, hb⟩ := q_low (v := ishr v1 9) (n := 32) (by decide) M
    rw [if_pos e7, m1, zbS, m2, zbS]
    exact ⟨f_X9_set a b, Act_mono (a_set ⟨by omega, by omega⟩ ⟨by omega, by omega⟩) (by decide), zbId _⟩
  rw [if_neg e7]
  by_cases e8 : q = 8
  · rw [if_pos e8]
    exact ⟨f_X9_post, Act_mono a_post (by decide), zbId _⟩
  rw [if_neg e8]
  by_cases e9 : q = 9
  · obtain ⟨a, m1, ha⟩ := q_low (v := ishr v1 5) (n := 4) (by decide) M
    rw [if_pos e9, m1, zbS]
    exact ⟨f_X9_cut a, Act_mono (a_cut ⟨by omega, by omega⟩) (by decide), zbId _⟩
  rw [if_neg e9]
  obtain ⟨d, m6, hd⟩ := q_low (v := ishr v1 9) (n := 6) (by decide) M
  rw [m6, zbS]
  by_cases e10 : q = 10
  · rw [if_pos e10]
    exact ⟨f_X9_pass d, a_pass ⟨by omega, by omega⟩ ⟨by decide, by omega⟩, zbId _⟩
  rw [if_neg e10]
  by_cases e11 : q = 11
  · rw [if_pos e11]
    exact ⟨f_X9_pass d, a_pass ⟨by omega, by omega⟩ ⟨by decide, by omega⟩, zbId _⟩
  rw [if_neg e11]
  by_cases e12 : q = 12
  · rw [if_pos e12]
    exact ⟨f_X9_pass d, a_pass ⟨by omega, by omega⟩ ⟨by decide, by omega⟩, zbId _⟩
  rw [if_neg e12]
  by_cases e13 : q = 13
  · rw [if_pos e13]
    exact ⟨f_X9_move h p, Act_mono (a_move hhi hpi) (by decide), zbId _⟩
  rw [if_neg e13]
  by_cases e14 : q = 14
  · rw [if_pos e14]
    exact ⟨f_X9_move h p, Act_mono (a_move hhi hpi) (by decide), zbId _⟩
  rw [if_neg e14]
  by_cases e15 : q = 15
  · rw [if_pos e15]
    exact ⟨f_X9_move h p, Act_mono (a_move hhi hpi) (by decide), zbId _⟩
  rw [if_neg e15]
  by_cases e16 : q = 16
  · rw [if_pos e16]
    exact ⟨f_X9_move h p, Act_mono (a_move hhi hpi) (by decide), zbId _⟩
  rw [if_neg e16]
  obtain ⟨a, m1, ha⟩ := q_low (v := ishr v1 5) (n := 4) (by decide) M
  by_cases e17 : q = 17
  · obtain ⟨b, m2, hb⟩ := q_low (v := ishr v1 9) (n := 260) (by decide) M
    obtain ⟨c, m3, hc⟩ := q_low (v := ishr v1 18) (n := 10001) (by decide) M
    rw [if_pos e17, m1, zbS, m2, zbS, m3, zbS]
    exact ⟨f_X9_write a b c, Act_mono (a_write ⟨by omega, by omega⟩ ⟨by omega, by omega⟩ ⟨by omega, by omega⟩) (by decide), zbId _⟩
  rw [if_neg e17]
  obtain ⟨b, m2, hb⟩ := q_low (v := ishr v1 9) (n := 256) (by decide) M
  rw [m1, zbS, m2, zbS]
  exact ⟨f_X9_request a b, Act_mono (a_request ⟨by omega, by omega⟩ ⟨by omega, by omega⟩) (by decide), zbId _⟩
theorem reader0 {B : Int} {M : Mem} {r : Row} (I : Inv B M r) : ∃ x M' r', f_X9_addReader 0 M = some (x, M') ∧ Inv (B + 1000) M' r' ∧ 1 ≤ r' 865 ∧ r' 862 ≤ r 862 := by
  have g1 := jP I (v := 0) (by decide)
  have W := I.2.1.2.1
  have hn := WF1_n W.1
  have hr0 := WF1_nr W.1
  have a0 : M 22 0 = r 865 := I.2.1.1.1.nr
  have c1 : 0 ≤ (0 : Int) ∧ (0 : Int) < r 863 := ⟨by decide, by omega⟩
  by_cases c3 : r 865 < 6
  · obtain ⟨M1, s1, I1, T1, kc⟩ := q_store I
    have hb : 0 ≤ r 865 ∧ r 865 < 6 := by omega
    obtain ⟨M', i1, i2, i3⟩ := q_join (k := 22) (b := 1) (p := 0) rfl I1.2.1.1.1 hb
    have hw : WF B (joiF r 0) := joiF_wf W hb.2 c1
    have hno : ∀ j, j < 726 ∨ 871 ≤ j ∨ (852 ≤ j ∧ j < 865) → joiF r 0 j = r j := fun j q1 => joiF_o hb (by omega) (by omega) (by omega)
    have e5 : joiF r 0 865 = r 865 + 1 := by unfold joiF; rw [up_eq]
    have K : ∀ y, y < 22 ∨ 29 ≤ y → M' y = M1 y := fun y hy => i3 y (by omega) (by omega) (by omega)
    refine ⟨r 865, M', joiF r 0, ?_, Inv_op I1 (by omega) ⟨ST_w I1.2.1.1 i2 (K 7 (by omega)) (fun i hi => hno _ (by omega)), WF_B hw (by omega), by rw [hno 862 (by omega)]; exact I.2.1.2.2.1, WX_c W.1 (fun j hj => hno j (by omega)) I.2.1.2.2.2⟩ (fun y hy => K y (by omega)), by omega, by rw [hno 862 (by omega)]; exact Int.le_refl _⟩
    unfold f_X9_addReader
    rw [g1, zbS, bitR, bit0, if_pos c1, a0, if_pos (by omega), if_pos c3, s1, zbS, i1, zbS]
  · refine ⟨-3, M, r, ?_, Inv_to I (by omega) (fun _ _ => rfl), by omega, Int.le_refl _⟩
    unfold f_X9_addReader
    rw [g1, zbS, bitR, bit0, if_pos c1, a0, if_pos (by omega), if_neg c3]

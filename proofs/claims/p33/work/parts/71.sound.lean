/-! the law's isSound: it answers 1 over every row that is kept -/
theorem sumN_add {n : Nat} {f g : Nat → Int} : sumN n (fun k => f k + g k) = sumN n f + sumN n g := by
  induction n with
  | zero => rfl
  | succ n ih => rw [sumN_succ, sumN_succ, sumN_succ, ih]; omega
theorem sumN_swap {f : Nat → Nat → Int} {m : Nat} : ∀ n : Nat, sumN n (fun i => sumN m (fun j => f i j)) = sumN m (fun j => sumN n (fun i => f i j)) := by
  intro n
  induction n with
  | zero =>
    show 0 = sumN m (fun _ => 0)
    exact (sumN_0 (fun _ _ => rfl)).symm
  | succ n ih =>
    rw [sumN_succ, ih, ← sumN_add]
    rfl
theorem sumN_one {a : Int} : ∀ n : Nat, sumN n (fun p : Nat => if a = (p : Int) then (1 : Int) else 0) = if 0 ≤ a ∧ a < n then 1 else 0 := by
  intro n
  induction n with
  | zero => rw [if_neg (by omega)]; rfl
  | succ n ih =>
    rw [sumN_succ, ih]
    by_cases e : a = (n : Int)
    · rw [if_pos e, if_neg (by omega), if_pos (by omega)]; rfl
    · rw [if_neg e]
      by_cases c : 0 ≤ a ∧ a < n
      · rw [if_pos c, if_pos (by omega)]; rfl
      · rw [if_neg c, if_neg (by omega)]; rfl
theorem all16 {B : Int} {r : Row} (W : WF1 B r) {N : Nat} (hN : r 863 = N) : sumN N (fun p => cntAt r (p : Int) 16) = 16 := by
  unfold cntAt
  rw [sumN_swap]
  have h1 : sumN 16 (fun j => sumN N (fun i => if r (416 + (j : Int)).toNat = (i : Int) then (1 : Int) else 0)) = sumN 16 (fun _ => 1) := sumN_congr (fun k hk => by
    have ha := WF1_at W (h := (k : Int)) (by omega) (by omega)
    rw [sumN_one, if_pos (by omega)])
  rw [h1]
  rfl
theorem trk_swap (r : Row) (N : Nat) : sumN 16 (fun h => trkOf r (h : Int) N) = trkAll r N := by
  unfold trkAll trkIn trkOf
  exact sumN_swap (f := fun h p => if 0 < r (160 + 16 * (p : Int) + (h : Int)).toNat then (1 : Int) else 0) 16
set_option maxRecDepth 20000 in
theorem snd_161 {B : Int} {r : Row} (W : WF B r) (X : WX r) (hd : r 862 ≤ 9999) {N : Nat} (hN : r 863 = N) {g85 : Int → Int → Int → Int → Int → Int → Mem → Option (Int × Mem)} {v2 v3 v4 v5 v6 : Int} (h6 : 0 ≤ v6 ∧ v6 < 16) : ∀ (d v F : Nat) (M : Mem), v + d = N → d < F → ST M 1 r → f_L_isSound_b161 g85 F N v2 v3 v4 v5 v6 v M = g85 N v2 v3 v4 v5 (v6 + 1) M := by
  have hn := WF1_n W.1
  have hday := WF1_day W.1
  have hat := WF1_at W.1 h6.1 h6.2
  obtain ⟨rk, hrk⟩ := W.2.1.2.2.2
  intro d
  induction d with
  | zero =>
    intro v F M h1 h2 hS
    obtain ⟨F, rfl⟩ : ∃ k, F = k + 1 := ⟨F - 1, by omega⟩
    unfold f_L_isSound_b161
    rw [if_pos (by omega), if_pos (by omega), if_pos (by omega)]
  | succ d ih =>
    intro v F M h1 h2 hS
    obtain ⟨F, rfl⟩ : ∃ k, F = k + 1 := ⟨F - 1, by omega⟩
    have hv : 0 ≤ (v : Int) ∧ (v : Int) < r 863 := by omega
    have next : f_L_isSound_b161 g85 F N v2 v3 v4 v5 v6 ((v : Int) + 1) M = g85 N v2 v3 v4 v5 (v6 + 1) M := by
      have h := ih (v + 1) F M (by omega) (by omega) hS
      push_cast at h
      exact h
    have ht := WF1_trk W.1 (p := (v : Int)) (by omega) (by omega) h6.1 h6.2
    have hl := WF1_left W.1 (p := (v : Int)) (by omega) (by omega) h6.1 h6.2
    unfold f_L_isSound_b161 f_L_isSound_b260
    rw [if_pos (by omega), if_pos (by omega), if_neg (by omega), t_track hS W hv h6 (by decide), zbS]
    by_cases c : r (160 + 16 * (v : Int) + v6).toNat = 0
    · have e0 : trV r v v6 0 = -5 := by unfold trV; rw [if_pos rfl, if_pos c]
      rw [e0, if_pos (by decide), if_pos (by decide)]
      exact next
    · have e0 : trV r v v6 0 = r (160 + 16 * (v : Int) + v6).toNat - 1 := by unfold trV; rw [if_pos rfl, if_neg c]
      have e1 : trV r v v6 1 = r (288 + 16 * (v : Int) + v6).toNat := by unfold trV; rw [if_neg (by decide), if_pos rfl, if_neg c]
      have hr := hrk v v6 (by omega) (by omega) h6.1 h6.2 c
      have hne : r (160 + 16 * (v : Int) + v6).toNat - 1 ≠ (v : Int) := fun q => by rw [q] at hr; omega
      have hlt := W.2.1.1 v v6 (by omega) (by omega) h6.1 h6.2 c
      have h2v : 0 ≤ r (160 + 16 * (v : Int) + v6).toNat - 1 ∧ r (160 + 16 * (v : Int) + v6).toNat - 1 < r 863 := by omega
      rw [e0, if_pos (by omega), if_neg (by omega), if_pos (Or.inr ⟨by omega, by omega⟩), if_neg hne, if_neg (by omega), t_track hS W hv h6 (by decide), zbS, e1, t_count hS W (by decide), zbS, show cnV r 0 = r 862 from rfl, if_pos (by omega), if_pos (by omega), if_neg (by omega), t_shard hS W h6 (by decide), zbS, show shV r v6 0 = r (416 + v6).toNat from rfl, if_pos (Or.inr ⟨by omega, by omega⟩)]
      by_cases c2 : r (416 + v6).toNat = r (160 + 16 * (v : Int) + v6).toNat - 1
      · rw [if_pos c2]; exact next
      rw [if_neg c2, t_track hS W h2v h6 (by decide), zbS]
      by_cases c3 : r (160 + 16 * (r (160 + 16 * (v : Int) + v6).toNat - 1) + v6).toNat = 0
      · have e3 : trV r (r (160 + 16 * (v : Int) + v6).toNat - 1) v6 1 = -5 := by unfold trV; rw [if_neg (by decide), if_pos rfl, if_pos c3]
        rw [e3, if_pos (by decide), if_pos (by decide)]
        exact next
      · have e3 : trV r (r (160 + 16 * (v : Int) + v6).toNat - 1) v6 1 = r (288 + 16 * (r (160 + 16 * (v : Int) + v6).toNat - 1) + v6).toNat := by unfold trV; rw [if_neg (by decide), if_pos rfl, if_neg c3]
        have hx := X.2.2 v v6 (by omega) (by omega) h6.1 h6.2 c c2 c3
        have hl2 := WF1_left W.1 (p := r (160 + 16 * (v : Int) + v6).toNat - 1) (by omega) (by omega) h6.1 h6.2
        have hlt2 := W.2.1.1 (r (160 + 16 * (v : Int) + v6).toNat - 1) v6 (by omega) (by omega) h6.1 h6.2 c3
        rw [e3, if_pos (by omega), if_neg (by omega), t_track hS W h2v h6 (by decide), zbS, e3, t_track hS W hv h6 (by decide), zbS, e1, if_pos (by omega), if_pos (by omega), if_pos hx]
        exact next
theorem snd_85 {B : Int} {r : Row} (W : WF B r) (X : WX r) (hd : r 862 ≤ 9999) {N : Nat} (hN : r 863 = N) : ∀ (d v F : Nat) (M : Mem), v + d = 16 → d < F → ST M 1 r → f_L_isSound_b85 F N 16 (trkAll r N - sumN v (fun h => trkOf r (h : Int) N)) (innF r N) (sumN v (fun h => r (448 + (h : Int)).toNat)) v M = some (1, M) := by
  have hn := WF1_n W.1
  intro d
  induction d with
  | zero =>
    intro v F M h1 h2 hS
    obtain ⟨F, rfl⟩ : ∃ k, F = k + 1 := ⟨F - 1, by omega⟩
    obtain rfl : v = 16 := by omega
    have e0 : trkAll r N - sumN 16 (fun h => trkOf r (h : Int) N) = 0 := by rw [trk_swap]; omega
    have e4 : cnV r 4 = innF r N := by
      show innF r (r 863).toNat = innF r N
      rw [show (r 863).toNat = N by omega]
    unfold f_L_isSound_b85 f_L_isSound_b308
    rw [if_pos (by omega), if_pos (by omega), if_pos (by decide), if_pos rfl, e0, if_pos (by decide), if_pos rfl, t_count hS W (by decide), zbS, e4, if_pos (Or.inl rfl), if_pos rfl, t_count hS W (by decide), zbS, show cnV r 8 = r 866 from rfl, W.2.2.1, if_pos (Or.inl rfl), if_pos rfl, if_pos (Or.inr rfl)]
  | succ d ih =>
    intro v F M h1 h2 hS
    obtain ⟨F, rfl⟩ : ∃ k, F = k + 1 := ⟨F - 1, by omega⟩
    have h6 : 0 ≤ (v : Int) ∧ (v : Int) < 16 := by omega
    have hat := WF1_at W.1 h6.1 h6.2
    have hht := WF1_heat W.1 h6.1 h6.2
    have e3 : shV r v 3 = trkOf r v N := by
      show trkOf r v (r 863).toNat = trkOf r v N
      rw [show (r 863).toNat = N by omega]
    have et : trV r (r (416 + (v : Int)).toNat) v 0 = -5 := by
      unfold trV
      rw [if_pos rfl, if_pos (X.1 v h6.1 h6.2)]
    have h := ih (v + 1) F M (by omega) (by omega) hS
    rw [sumN_succ, sumN_succ] at h
    push_cast at h
    unfold f_L_isSound_b85
    rw [if_pos (by omega), if_neg (by omega), t_shard hS W h6 (by decide), zbS, show shV r v 2 = r (448 + (v : Int)).toNat from rfl, zltS, t_shard hS W h6 (by decide), zbS, e3, zltS, t_shard hS W h6 (by decide), zbS, show shV r v 0 = r (416 + (v : Int)).toNat from rfl, t_track hS W hat h6 (by decide), zbS, et, if_pos (by decide), if_pos rfl, t_shard hS W h6 (by decide), zbS, show shV r v 1 = r (432 + (v : Int)).toNat from rfl, if_pos (by omega), if_neg (by omega), t_shard hS W h6 (by decide), zbS, show shV r v 1 = r (432 + (v : Int)).toNat from rfl, if_pos (by omega), if_pos (by omega)]
    rw [show (0 : Int) = ((0 : Nat) : Int) from rfl, snd_161 W X hd hN h6 N 0 100000 M (by omega) (by omega) hS]
    rw [show trkAll r N - sumN v (fun h => trkOf r (h : Int) N) - trkOf r v N = trkAll r N - (sumN v (fun h => trkOf r (h : Int) N) + trkOf r v N) by omega]
    exact h
theorem snd_19 {B : Int} {r : Row} (W : WF B r) (X : WX r) (hd : r 862 ≤ 9999) {N : Nat} (hN : r 863 = N) : ∀ (d v F : Nat) (M : Mem), v + d = N → d < F → ST M 1 r → f_L_isSound_b19 F N (sumN v (fun p => cntAt r (p : Int) 16)) (trkAll r v) (innF r v) 0 v M = some (1, M) := by
  have hn := WF1_n W.1
  intro d
  induction d with
  | zero =>
    intro v F M h1 h2 hS
    obtain ⟨F, rfl⟩ : ∃ k, F = k + 1 := ⟨F - 1, by omega⟩
    obtain rfl : v = N := by omega
    have h := snd_85 W X hd hN 16 0 100000 M rfl (by decide) hS
    rw [show sumN 0 (fun h => trkOf r (h : Int) v) = 0 from rfl, show sumN 0 (fun h => r (448 + (h : Int)).toNat) = 0 from rfl, Int.sub_zero, show ((0 : Nat) : Int) = 0 from rfl] at h
    unfold f_L_isSound_b19
    rw [if_pos (by omega), if_pos (by omega), if_pos (by omega), all16 W.1 hN]
    exact h
  | succ d ih =>
    intro v F M h1 h2 hS
    obtain ⟨F, rfl⟩ : ∃ k, F = k + 1 := ⟨F - 1, by omega⟩
    have hv : 0 ≤ (v : Int) ∧ (v : Int) < r 863 := by omega
    have hb := cntAt_b r (v : Int) 16
    have hrm := WF1_room W.1 (p := (v : Int)) (by omega) (by omega)
    have hi := WF1_inn W.1 (p := (v : Int)) (by omega) (by omega)
    have hx := X.2.1 v (by omega) (by omega)
    have h := ih (v + 1) F M (by omega) (by omega) hS
    rw [sumN_succ, trkAll_s, innF_s] at h
    push_cast at h
    have ei : (if r ((0 + 4 * (v : Int)) + 2).toNat = 1 then (1 : Int) else 0) = r ((0 + 4 * (v : Int)) + 2).toNat := by
      by_cases e : r ((0 + 4 * (v : Int)) + 2).toNat = 1
      · rw [if_pos e, e]
      · rw [if_neg e]; omega
    rw [ei] at h
    unfold f_L_isSound_b19
    rw [if_pos (by omega), if_pos (by omega), if_neg (by omega), t_pasture hS W hv (by decide), zbS, show paV r v 3 = cntAt r v 16 from rfl, zltS, t_pasture hS W hv (by decide), zbS, show paV r v 4 = trkIn r v 16 from rfl, zltS, t_pasture hS W hv (by decide), zbS, show paV r v 2 = r ((0 + 4 * (v : Int)) + 2).toNat from rfl, zltS, t_pasture hS W hv (by decide), zbS, show paV r v 3 = cntAt r v 16 from rfl, t_pasture hS W hv (by decide), zbS, show paV r v 1 = r ((0 + 4 * (v : Int)) + 1).toNat from rfl, if_pos (by omega), if_pos (by omega), if_pos hx]
    exact h
theorem q_isSound {B : Int} {M : Mem} {r : Row} (I : Inv B M r) : f_L_isSound M = some (1, M) := by
  have W := I.2.1.2.1
  have hn := WF1_n W.1
  have h := snd_19 W I.2.1.2.2.2 I.2.1.2.2.1 (N := (r 863).toNat) (by omega) (r 863).toNat 0 100000 M (by omega) (by omega) I.2.1.1
  rw [show sumN 0 (fun p => cntAt r (p : Int) 16) = 0 from rfl, show trkAll r 0 = 0 from rfl, show innF r 0 = 0 from rfl, show ((0 : Nat) : Int) = 0 from rfl, show (((r 863).toNat : Nat) : Int) = r 863 by omega] at h
  unfold f_L_isSound
  rw [t_count I.2.1.1 W (by decide), zbS, show cnV r 3 = r 863 from rfl]
  exact h

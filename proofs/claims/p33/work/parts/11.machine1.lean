theorem dX9_movesIn_0 : decode cX9_movesIn 0 = .ok (.iload_n 1, 1) := by decide +kernel
theorem dX9_movesIn_1 : decode cX9_movesIn 1 = .ok (.invokestatic 127, 3) := by decide +kernel
theorem dX9_movesIn_4 : decode cX9_movesIn 4 = .ok (.ifCond .ne 5, 3) := by decide +kernel
theorem dX9_movesIn_7 : decode cX9_movesIn 7 = .ok (.iconst (-1), 1) := by decide +kernel
theorem dX9_movesIn_8 : decode cX9_movesIn 8 = .ok (.ireturn, 1) := by decide +kernel
theorem dX9_movesIn_9 : decode cX9_movesIn 9 = .ok (.aload_n 0, 1) := by decide +kernel
theorem dX9_movesIn_10 : decode cX9_movesIn 10 = .ok (.getfield 16, 3) := by decide +kernel
theorem dX9_movesIn_13 : decode cX9_movesIn 13 = .ok (.aload_n 0, 1) := by decide +kernel
theorem dX9_movesIn_14 : decode cX9_movesIn 14 = .ok (.getfield 12, 3) := by decide +kernel
theorem dX9_movesIn_17 : decode cX9_movesIn 17 = .ok (.invokevirtual 188, 3) := by decide +kernel
theorem dX9_movesIn_20 : decode cX9_movesIn 20 = .ok (.aload_n 0, 1) := by decide +kernel
theorem dX9_movesIn_21 : decode cX9_movesIn 21 = .ok (.getfield 16, 3) := by decide +kernel
theorem dX9_movesIn_24 : decode cX9_movesIn 24 = .ok (.getfield 130, 3) := by decide +kernel
theorem dX9_movesIn_27 : decode cX9_movesIn 27 = .ok (.getfield 239, 3) := by decide +kernel
theorem dX9_movesIn_30 : decode cX9_movesIn 30 = .ok (.iload_n 1, 1) := by decide +kernel
theorem dX9_movesIn_31 : decode cX9_movesIn 31 = .ok (.iaload, 1) := by decide +kernel
theorem dX9_movesIn_32 : decode cX9_movesIn 32 = .ok (.istore_n 2, 1) := by decide +kernel
theorem dX9_movesIn_33 : decode cX9_movesIn 33 = .ok (.iconst 1, 1) := by decide +kernel
theorem dX9_movesIn_34 : decode cX9_movesIn 34 = .ok (.istore_n 3, 1) := by decide +kernel
theorem dX9_movesIn_35 : decode cX9_movesIn 35 = .ok (.iload_n 3, 1) := by decide +kernel
theorem dX9_movesIn_36 : decode cX9_movesIn 36 = .ok (.bipush 60, 2) := by decide +kernel
theorem dX9_movesIn_38 : decode cX9_movesIn 38 = .ok (.if_icmp .gt 34, 3) := by decide +kernel
theorem dX9_movesIn_41 : decode cX9_movesIn 41 = .ok (.aload_n 0, 1) := by decide +kernel
theorem dX9_movesIn_42 : decode cX9_movesIn 42 = .ok (.getfield 16, 3) := by decide +kernel
theorem dX9_movesIn_45 : decode cX9_movesIn 45 = .ok (.invokevirtual 295, 3) := by decide +kernel
theorem dX9_movesIn_48 : decode cX9_movesIn 48 = .ok (.aload_n 0, 1) := by decide +kernel
theorem dX9_movesIn_49 : decode cX9_movesIn 49 = .ok (.getfield 16, 3) := by decide +kernel
theorem dX9_movesIn_52 : decode cX9_movesIn 52 = .ok (.getfield 130, 3) := by decide +kernel
theorem dX9_movesIn_55 : decode cX9_movesIn 55 = .ok (.getfield 239, 3) := by decide +kernel
theorem dX9_movesIn_58 : decode cX9_movesIn 58 = .ok (.iload_n 1, 1) := by decide +kernel
theorem dX9_movesIn_59 : decode cX9_movesIn 59 = .ok (.iaload, 1) := by decide +kernel
theorem dX9_movesIn_60 : decode cX9_movesIn 60 = .ok (.iload_n 2, 1) := by decide +kernel
theorem dX9_movesIn_61 : decode cX9_movesIn 61 = .ok (.if_icmp .eq 5, 3) := by decide +kernel
theorem dX9_movesIn_64 : decode cX9_movesIn 64 = .ok (.iload_n 3, 1) := by decide +kernel
theorem dX9_movesIn_65 : decode cX9_movesIn 65 = .ok (.ireturn, 1) := by decide +kernel
theorem dX9_movesIn_66 : decode cX9_movesIn 66 = .ok (.iinc 3 1, 3) := by decide +kernel
theorem dX9_movesIn_69 : decode cX9_movesIn 69 = .ok (.goto (-34), 3) := by decide +kernel
theorem dX9_movesIn_72 : decode cX9_movesIn 72 = .ok (.bipush (-5), 2) := by decide +kernel
theorem dX9_movesIn_74 : decode cX9_movesIn 74 = .ok (.ireturn, 1) := by decide +kernel
set_option maxRecDepth 100000 in
set_option maxHeartbeats 4000000 in
theorem c_X9_movesIn (l : Launch) (D : va_G) (cas : Nat → ClassId) (ad : Nat → Nat) (hi : zInj ad) {v1 : Int}  {r : Int} {M M' : Mem} (hf : f_X9_movesIn v1 M = some (r, M')) : zMi l D cas ad yX9_movesIn cX9_movesIn 4 (some .int) 5 114 [.ref (ad 0), .int (zI v1)] M r M' := by
  refine zbody (by decide) (Nat.le_of_ble_eq_true rfl) hi ?_
  intro p e s m args below meth c X hr hk0
  have X : zX p s m args c cX9_movesIn "ShardTrails" 4 D cas ad (zA ad) := X
  have hB35 : ∀ (n : Nat) (v1 v2 v3 : Int) (M : Mem), f_X9_movesIn_b35 n v1 v2 v3 M = some (r, M') → WW p l e (zrm 5 114) s m args below meth c D cas ad (zA ad) 4 0 0 (MQ below (zQi D cas ad r M') args s 0 0 (zA ad)) 35 [(0, .ref (ad 0)), (1, .int (zI v1)), (2, .int (zI v2)), (3, .int (zI v3))] [] M := by
    intro n
    induction n with
    | zero => intro v1 v2 v3 M hf; exact absurd hf (by unfold f_X9_movesIn_b35; simp)
    | succ n ih =>
      intro v1 v2 v3 M hf
      unfold f_X9_movesIn_b35 at hf
      refine R_iload_n X 3 dX9_movesIn_35 rfl rfl ?_
      refine R_bipush X dX9_movesIn_36 (by decide +kernel) ?_
      obtain ⟨hq11, hf⟩ := zgrd hf
      refine R_icmp_gt X 72 ⟨hq11, (by decide)⟩ dX9_movesIn_38 (by decide) (fun c19 => ?_) (fun c19 => ?_)
      · have hf := zthen hf c19
        refine R_bipush X dX9_movesIn_72 (by decide +kernel) ?_
        exact R_iret X hr hk0 dX9_movesIn_74 hf
      · have hf := zelse hf c19
        refine R_aload_n X 0 dX9_movesIn_41 rfl rfl ?_
        refine R_getR X (j := 1) 30 30 lc_0 rfl inX9 (by decide) rfl rfl (by decide) rfl rfl wf_X9_16 dX9_movesIn_42 ?_
        obtain ⟨r12, M13, hc14, hf⟩ := zbnd_some hf
        refine R_callVv X (av := []) (rest := []) (c_X7_passDayOfHerd l D cas ad hi lc_30 hc14) zy_X7_passDayOfHerd lc_30 rfl rfl wm_X9_295 rfl rfl ⟨Nat.le_of_ble_eq_true rfl, Nat.le_of_ble_eq_true rfl⟩ ⟨Nat.le_refl _, Nat.le_refl _⟩ (Nat.le_of_ble_eq_true rfl) dX9_movesIn_45 ?_
        refine R_aload_n X 0 dX9_movesIn_48 rfl rfl ?_
        refine R_getR X (j := 1) 30 30 lc_0 rfl inX9 (by decide) rfl rfl (by decide) rfl rfl wf_X9_16 dX9_movesIn_49 ?_
        refine R_getR X (j := 7) 13 43 lc_30 rfl inX7 (by decide) rfl rfl (by decide) rfl rfl wf_X9_130 dX9_movesIn_52 ?_
        refine R_getR X (j := 2) 3 46 lc_43 rfl inX0 (by decide) rfl rfl (by decide) rfl rfl wf_X9_239 dX9_movesIn_55 ?_
        refine R_iload_n X 1 dX9_movesIn_58 rfl rfl ?_
        obtain ⟨hq15, hf⟩ := zgrd hf
        refine R_iald X lc_46 hq15 dX9_movesIn_59 ?_
        refine R_iload_n X 2 dX9_movesIn_60 rfl rfl ?_
        obtain ⟨hq16, hf⟩ := zgrd hf
        obtain ⟨hq17, hf⟩ := zgrd hf
        refine R_icmp_eq X 66 ⟨hq16, hq17⟩ dX9_movesIn_61 (by decide) (fun c18 => ?_) (fun c18 => ?_)
        · have hf := zthen hf c18
          refine R_iinc X (lv' := [(3, .int (zI (v3 + 1))), (0, .ref (ad 0)), (1, .int (zI v1)), (2, .int (zI v2))]) 3 dX9_movesIn_66 rfl (by decide) rfl ?_
          refine R_goto X 35 dX9_movesIn_69 (by decide) ?_
          exact R_sub [1, 2, 3, 0] rfl (ih v1 v2 (v3 + 1) M13 hf)
        · have hf := zelse hf c18
          refine R_iload_n X 3 dX9_movesIn_64 rfl rfl ?_
          exact R_iret X hr hk0 dX9_movesIn_65 hf
  unfold f_X9_movesIn at hf
  refine (?_ : WW p l e (zrm 5 114) s m args below meth c D cas ad (zA ad) 4 0 0 (MQ below (zQi D cas ad r M') args s 0 0 (zA ad)) 0 [(0, .ref (ad 0)), (1, .int (zI v1))] [] M)
  refine R_iload_n X 1 dX9_movesIn_0 rfl rfl ?_
  obtain ⟨r1, M2, hc3, hf⟩ := zbnd_some hf
  refine R_callSi X (av := [.int (zI v1)]) (rest := []) (c_X9_isShard l D cas ad hi hc3) zy_X9_isShard wm_X9_127 rfl rfl ⟨Nat.le_of_ble_eq_true rfl, Nat.le_of_ble_eq_true rfl⟩ ⟨Nat.le_refl _, Nat.le_refl _⟩ (Nat.le_of_ble_eq_true rfl) dX9_movesIn_1 ?_
  obtain ⟨hq4, hf⟩ := zgrd hf
  refine R_if_ne X 9 hq4 dX9_movesIn_4 (by decide) (fun c10 => ?_) (fun c10 => ?_)
  · have hf := zelse hf c10
    refine R_aload_n X 0 dX9_movesIn_9 rfl rfl ?_
    refine R_getR X (j := 1) 30 30 lc_0 rfl inX9 (by decide) rfl rfl (by decide) rfl rfl wf_X9_16 dX9_movesIn_10 ?_
    refine R_aload_n X 0 dX9_movesIn_13 rfl rfl ?_
    refine R_getR X (j := 0) 1 1 lc_0 rfl inX9 (by decide) rfl rfl (by decide) rfl rfl wf_X9_12 dX9_movesIn_14 ?_
    obtain ⟨r5, M6, hc7, hf⟩ := zbnd_some hf
    refine R_callVv X (av := [.ref (ad 1)]) (rest := []) (c_X7_copyFrom l D cas ad hi lc_30 lc_1 hc7) zy_X7_copyFrom lc_30 rfl rfl wm_X9_188 rfl rfl ⟨Nat.le_of_ble_eq_true rfl, Nat.le_of_ble_eq_true rfl⟩ ⟨Nat.le_refl _, Nat.le_refl _⟩ (Nat.le_of_ble_eq_true rfl) dX9_movesIn_17 ?_
    refine R_aload_n X 0 dX9_movesIn_20 rfl rfl ?_
    refine R_getR X (j := 1) 30 30 lc_0 rfl inX9 (by decide) rfl rfl (by decide) rfl rfl wf_X9_16 dX9_movesIn_21 ?_
    refine R_getR X (j := 7) 13 43 lc_30 rfl inX7 (by decide) rfl rfl (by decide) rfl rfl wf_X9_130 dX9_movesIn_24 ?_
    refine R_getR X (j := 2) 3 46 lc_43 rfl inX0 (by decide) rfl rfl (by decide) rfl rfl wf_X9_239 dX9_movesIn_27 ?_
    refine R_iload_n X 1 dX9_movesIn_30 rfl rfl ?_
    obtain ⟨hq8, hf⟩ := zgrd hf
    refine R_iald X lc_46 hq8 dX9_movesIn_31 ?_
    obtain ⟨x9, ex9, hf⟩ := zlt_some hf
    refine R_istore_nX X (lv' := [(2, .int (zI x9)), (0, .ref (ad 0)), (1, .int (zI v1))]) ex9 dX9_movesIn_32 rfl (by decide) rfl ?_
    refine R_iconst X dX9_movesIn_33 ?_
    refine R_istore_n X (lv' := [(3, .int (zI 1)), (2, .int (zI x9)), (0, .ref (ad 0)), (1, .int (zI v1))]) dX9_movesIn_34 rfl (by decide) rfl ?_
    exact R_sub [2, 3, 1, 0] rfl (hB35 100000 v1 x9 1 M6 hf)
  · have hf := zthen hf c10
    refine R_iconst X dX9_movesIn_7 ?_
    exact R_iret X hr hk0 dX9_movesIn_8 hf
theorem dX2_tellAll_0 : decode cX2_tellAll 0 = .ok (.iconst 0, 1) := by decide +kernel
theorem dX2_tellAll_1 : decode cX2_tellAll 1 = .ok (.istore_n 2, 1) := by decide +kernel
theorem dX2_tellAll_2 : decode cX2_tellAll 2 = .ok (.iload_n 2, 1) := by decide +kernel
theorem dX2_tellAll_3 : decode cX2_tellAll 3 = .ok (.aload_n 0, 1) := by decide +kernel
theorem dX2_tellAll_4 : decode cX2_tellAll 4 = .ok (.getfield 37, 3) := by decide +kernel
theorem dX2_tellAll_7 : decode cX2_tellAll 7 = .ok (.if_icmp .ge 34, 3) := by decide +kernel
theorem dX2_tellAll_10 : decode cX2_tellAll 10 = .ok (.aload_n 0, 1) := by decide +kernel
theorem dX2_tellAll_11 : decode cX2_tellAll 11 = .ok (.getfield 24, 3) := by decide +kernel
theorem dX2_tellAll_14 : decode cX2_tellAll 14 = .ok (.iload_n 2, 1) := by decide +kernel
theorem dX2_tellAll_15 : decode cX2_tellAll 15 = .ok (.baload, 1) := by decide +kernel
theorem dX2_tellAll_16 : decode cX2_tellAll 16 = .ok (.ifCond .eq 19, 3) := by decide +kernel
theorem dX2_tellAll_19 : decode cX2_tellAll 19 = .ok (.aload_n 1, 1) := by decide +kernel
theorem dX2_tellAll_20 : decode cX2_tellAll 20 = .ok (.iconst 0, 1) := by decide +kernel
theorem dX2_tellAll_21 : decode cX2_tellAll 21 = .ok (.aload_n 0, 1) := by decide +kernel
theorem dX2_tellAll_22 : decode cX2_tellAll 22 = .ok (.getfield 28, 3) := by decide +kernel
theorem dX2_tellAll_25 : decode cX2_tellAll 25 = .ok (.iload_n 2, 1) := by decide +kernel
theorem dX2_tellAll_26 : decode cX2_tellAll 26 = .ok (.iconst 0, 1) := by decide +kernel
theorem dX2_tellAll_27 : decode cX2_tellAll 27 = .ok (.invokestatic 51, 3) := by decide +kernel
theorem dX2_tellAll_30 : decode cX2_tellAll 30 = .ok (.bipush 16, 2) := by decide +kernel
theorem dX2_tellAll_32 : decode cX2_tellAll 32 = .ok (.invokestatic 55, 3) := by decide +kernel
theorem dX2_tellAll_35 : decode cX2_tellAll 35 = .ok (.iinc 2 1, 3) := by decide +kernel
theorem dX2_tellAll_38 : decode cX2_tellAll 38 = .ok (.goto (-36), 3) := by decide +kernel
theorem dX2_tellAll_41 : decode cX2_tellAll 41 = .ok (.return_, 1) := by decide +kernel
set_option maxRecDepth 100000 in
set_option maxHeartbeats 4000000 in
theorem c_X2_tellAll (l : Launch) (D : va_G) (cas : Nat → ClassId) (ad : Nat → Nat) (hi : zInj ad) {k : Nat} {a1 : Nat} {n1 : Nat}  (hk : k < zN ∧ lay k = (0, 2)) (ha1 : a1 < zN ∧ lay a1 = (1, n1)) {r : Int} {M M' : Mem} (hf : f_X2_tellAll k a1 n1 M = some (r, M')) : zMv l D cas ad yX2_tellAll cX2_tellAll 3 1 26 [.ref (ad k), .ref (ad a1)] M M' := by
  refine zbody (by decide) (Nat.le_of_ble_eq_true rfl) hi ?_
  intro p e s m args below meth c X hr hk0
  have X : zX p s m args c cX2_tellAll "ShardTrails$Land" 3 D cas ad (zA ad) := X
  have hB35 : ∀ (g2 : Int → Mem → Option (Int × Mem)) (hg2 : ∀ (v2 : Int) (M : Mem), g2 v2 M = some (r, M') → WW p l e (zrm 1 26) s m args below meth c D cas ad (zA ad) 3 0 0 (MQ below (zQv D cas ad M') args s 0 0 (zA ad)) 2 [(0, .ref (ad k)), (1, .ref (ad a1)), (2, .int (zI v2))] [] M) (v2 : Int) (M : Mem), f_X2_tellAll_b35 g2 k a1 n1 v2 M = some (r, M') → WW p l e (zrm 1 26) s m args below meth c D cas ad (zA ad) 3 0 0 (MQ below (zQv D cas ad M') args s 0 0 (zA ad)) 35 [(0, .ref (ad k)), (1, .ref (ad a1)), (2, .int (zI v2))] [] M := by
    intro g2 hg2 v2 M hf
    unfold f_X2_tellAll_b35 at hf
    refine R_iinc X (lv' := [(2, .int (zI (v2 + 1))), (0, .ref (ad k)), (1, .ref (ad a1))]) 2 dX2_tellAll_35 rfl (by decide) rfl ?_
    refine R_goto X 2 dX2_tellAll_38 (by decide) ?_
    exact R_sub [1, 2, 0] rfl (hg2 (v2 + 1) M hf)
  have hB2 : ∀ (n : Nat) (v2 : Int) (M : Mem), f_X2_tellAll_b2 k a1 n1 n v2 M = some (r, M') → WW p l e (zrm 1 26) s m args below meth c D cas ad (zA ad) 3 0 0 (MQ below (zQv D cas ad M') args s 0 0 (zA ad)) 2 [(0, .ref (ad k)), (1, .ref (ad a1)), (2, .int (zI v2))] [] M := by
    intro n
    induction n with
    | zero => intro v2 M hf; exact absurd hf (by unfold f_X2_tellAll_b2; simp)
    | succ n ih =>
      intro v2 M hf
      unfold f_X2_tellAll_b2 at hf
      refine R_iload_n X 2 dX2_tellAll_2 rfl rfl ?_
      refine R_aload_n X 0 dX2_tellAll_3 rfl rfl ?_
      refine R_getI X (j := 0) hk rfl inX2 (by decide) rfl rfl rfl wf_X2_37 dX2_tellAll_4 ?_
      obtain ⟨hq1, hf⟩ := zgrd hf
      obtain ⟨hq2, hf⟩ := zgrd hf
      refine R_icmp_ge X 41 ⟨hq1, hq2⟩ dX2_tellAll_7 (by decide) (fun c13 => ?_) (fun c13 => ?_)
      · have hf := zthen hf c13
        exact R_vret X hr hk0 dX2_tellAll_41 hf
      · have hf := zelse hf c13
        refine R_aload_n X 0 dX2_tellAll_10 rfl rfl ?_
        have hp3 : k + 5 < zN ∧ lay (k + 5) = (2, 8) := pt_2_5 _ hk.1 hk.2
        refine R_getR X (j := 5) 5 (k + 5) hk rfl inX2 (by decide) rfl rfl (by decide) rfl rfl wf_X2_24 dX2_tellAll_11 ?_
        refine R_iload_n X 2 dX2_tellAll_14 rfl rfl ?_
        obtain ⟨hq4, hf⟩ := zgrd hf
        refine R_zald X hp3 hq4 dX2_tellAll_15 ?_
        obtain ⟨hq5, hf⟩ := zgrd hf
        refine R_if_eq X 35 hq5 dX2_tellAll_16 (by decide) (fun c12 => ?_) (fun c12 => ?_)
        · have hf := zthen hf c12
          exact R_sub [0, 1, 2] rfl (hB35 (f_X2_tellAll_b2 k a1 n1 n) ih v2 M hf)
        · have hf := zelse hf c12
          refine R_aload_n X 1 dX2_tellAll_19 rfl rfl ?_
          refine R_iconst X dX2_tellAll_20 ?_
          refine R_aload_n X 0 dX2_tellAll_21 rfl rfl ?_
          have hp6 : k + 6 < zN ∧ lay (k + 6) = (1, 128) := pt_2_6 _ hk.1 hk.2
          refine R_getR X (j := 6) 6 (k + 6) hk rfl inX2 (by decide) rfl rfl (by decide) rfl rfl wf_X2_28 dX2_tellAll_22 ?_
          refine R_iload_n X 2 dX2_tellAll_25 rfl rfl ?_
          refine R_iconst X dX2_tellAll_26 ?_
          obtain ⟨r7, M8, hc9, hf⟩ := zbnd_some hf
          refine R_callNi X (av := [.int (zI v2), .int (zI 0)]) (rest := [.ref (ad (k + 6)), .int (zI 0), .ref (ad a1)]) (c_X9_cell l D cas ad hi hc9) zy_X9_cell wn_X2_51 rfl rfl ⟨Nat.le_of_ble_eq_true rfl, Nat.le_of_ble_eq_true rfl⟩ ⟨Nat.le_refl _, Nat.le_refl _⟩ (Nat.le_of_ble_eq_true rfl) dX2_tellAll_27 ?_
          refine R_bipush X dX2_tellAll_30 (by decide +kernel) ?_
          obtain ⟨hq10, hf⟩ := zgrd hf
          obtain ⟨M11, eM11, hf⟩ := zlt_some hf
          refine R_copy X ha1 hp6 hq10 wm_X2_55 zcp_n zcp_s zcp_i (by decide) (Nat.le_of_ble_eq_true rfl) dX2_tellAll_32 ?_
          refine R_mem eM11 ?_
          exact R_sub [0, 1, 2] rfl (hB35 (f_X2_tellAll_b2 k a1 n1 n) ih v2 M11 hf)
  unfold f_X2_tellAll at hf
  refine (?_ : WW p l e (zrm 1 26) s m args below meth c D cas ad (zA ad) 3 0 0 (MQ below (zQv D cas ad M') args s 0 0 (zA ad)) 0 [(0, .ref (ad k)), (1, .ref (ad a1))] [] M)
  refine R_iconst X dX2_tellAll_0 ?_
  refine R_istore_n X (lv' := [(2, .int (zI 0)), (0, .ref (ad k)), (1, .ref (ad a1))]) dX2_tellAll_1 rfl (by decide) rfl ?_
  exact R_sub [1, 2, 0] rfl (hB2 100000 0 M hf)
theorem dX7_letInnsPost_0 : decode cX7_letInnsPost 0 = .ok (.aload_n 0, 1) := by decide +kernel
theorem dX7_letInnsPost_1 : decode cX7_letInnsPost 1 = .ok (.getfield 32, 3) := by decide +kernel
theorem dX7_letInnsPost_4 : decode cX7_letInnsPost 4 = .ok (.aload_n 0, 1) := by decide +kernel
theorem dX7_letInnsPost_5 : decode cX7_letInnsPost 5 = .ok (.getfield 46, 3) := by decide +kernel
theorem dX7_letInnsPost_8 : decode cX7_letInnsPost 8 = .ok (.getfield 149, 3) := by decide +kernel
theorem dX7_letInnsPost_11 : decode cX7_letInnsPost 11 = .ok (.invokevirtual 172, 3) := by decide +kernel
theorem dX7_letInnsPost_14 : decode cX7_letInnsPost 14 = .ok (.return_, 1) := by decide +kernel
set_option maxRecDepth 100000 in
set_option maxHeartbeats 4000000 in
theorem c_X7_letInnsPost (l : Launch) (D : va_G) (cas : Nat → ClassId) (ad : Nat → Nat) (hi : zInj ad) {k : Nat}  (hk : k < zN ∧ lay k = (0, 7)) {r : Int} {M M' : Mem} (hf : f_X7_letInnsPost k M = some (r, M')) : zMv l D cas ad yX7_letInnsPost cX7_letInnsPost 1 2 48 [.ref (ad k)] M M' := by
  refine zbody (by decide) (Nat.le_of_ble_eq_true rfl) hi ?_
  intro p e s m args below meth c X hr hk0
  have X : zX p s m args c cX7_letInnsPost "ShardTrails$State" 1 D cas ad (zA ad) := X
  unfold f_X7_letInnsPost at hf
  refine (?_ : WW p l e (zrm 2 48) s m args below meth c D cas ad (zA ad) 1 0 0 (MQ below (zQv D cas ad M') args s 0 0 (zA ad)) 0 [(0, .ref (ad k))] [] M)
  refine R_aload_n X 0 dX7_letInnsPost_0 rfl rfl ?_
  have hp1 : k + 3 < zN ∧ lay (k + 3) = (0, 2) := pt_7_5 _ hk.1 hk.2
  refine R_getR X (j := 5) 3 (k + 3) hk rfl inX7 (by decide) rfl rfl (by decide) rfl rfl wf_X7_32 dX7_letInnsPost_1 ?_
  refine R_aload_n X 0 dX7_letInnsPost_4 rfl rfl ?_
  have hp2 : k + 13 < zN ∧ lay (k + 13) = (0, 0) := pt_7_7 _ hk.1 hk.2
  refine R_getR X (j := 7) 13 (k + 13) hk rfl inX7 (by decide) rfl rfl (by decide) rfl rfl wf_X7_46 dX7_letInnsPost_5 ?_
  have hp3 : k + 14 < zN ∧ lay (k + 14) = (1, 16) := pt_0_0 _ hp2.1 hp2.2
  refine R_getR X (j := 0) 1 (k + 14) hp2 rfl inX0 (by decide) rfl rfl (by decide) rfl rfl wf_X7_149 dX7_letInnsPost_8 ?_
  obtain ⟨r4, M5, hc6, hf⟩ := zbnd_some hf
  refine R_callVv X (av := [.ref (ad (k + 14))]) (rest := []) (c_X2_tellAll l D cas ad hi hp1 hp3 hc6) zy_X2_tellAll hp1 rfl rfl wm_X7_172 rfl rfl ⟨Nat.le_of_ble_eq_true rfl, Nat.le_of_ble_eq_true rfl⟩ ⟨Nat.le_refl _, Nat.le_refl _⟩ (Nat.le_of_ble_eq_true rfl) dX7_letInnsPost_11 ?_
  exact R_vret X hr hk0 dX7_letInnsPost_14 hf
theorem dX7_letInnsPostOnTheirDay_0 : decode cX7_letInnsPostOnTheirDay 0 = .ok (.aload_n 0, 1) := by decide +kernel
theorem dX7_letInnsPostOnTheirDay_1 : decode cX7_letInnsPostOnTheirDay 1 = .ok (.getfield 18, 3) := by decide +kernel
theorem dX7_letInnsPostOnTheirDay_4 : decode cX7_letInnsPostOnTheirDay 4 = .ok (.iconst 4, 1) := by decide +kernel
theorem dX7_letInnsPostOnTheirDay_5 : decode cX7_letInnsPostOnTheirDay 5 = .ok (.iaload, 1) := by decide +kernel
theorem dX7_letInnsPostOnTheirDay_6 : decode cX7_letInnsPostOnTheirDay 6 = .ok (.istore_n 1, 1) := by decide +kernel
theorem dX7_letInnsPostOnTheirDay_7 : decode cX7_letInnsPostOnTheirDay 7 = .ok (.iload_n 1, 1) := by decide +kernel
theorem dX7_letInnsPostOnTheirDay_8 : decode cX7_letInnsPostOnTheirDay 8 = .ok (.ifCond .le 18, 3) := by decide +kernel
theorem dX7_letInnsPostOnTheirDay_11 : decode cX7_letInnsPostOnTheirDay 11 = .ok (.aload_n 0, 1) := by decide +kernel
theorem dX7_letInnsPostOnTheirDay_12 : decode cX7_letInnsPostOnTheirDay 12 = .ok (.getfield 67, 3) := by decide +kernel
theorem dX7_letInnsPostOnTheirDay_15 : decode cX7_letInnsPostOnTheirDay 15 = .ok (.iconst 1, 1) := by decide +kernel
theorem dX7_letInnsPostOnTheirDay_16 : decode cX7_letInnsPostOnTheirDay 16 = .ok (.iadd, 1) := by decide +kernel
theorem dX7_letInnsPostOnTheirDay_17 : decode cX7_letInnsPostOnTheirDay 17 = .ok (.iload_n 1, 1) := by decide +kernel
theorem dX7_letInnsPostOnTheirDay_18 : decode cX7_letInnsPostOnTheirDay 18 = .ok (.irem, 1) := by decide +kernel
theorem dX7_letInnsPostOnTheirDay_19 : decode cX7_letInnsPostOnTheirDay 19 = .ok (.ifCond .ne 7, 3) := by decide +kernel
theorem dX7_letInnsPostOnTheirDay_22 : decode cX7_letInnsPostOnTheirDay 22 = .ok (.aload_n 0, 1) := by decide +kernel
theorem dX7_letInnsPostOnTheirDay_23 : decode cX7_letInnsPostOnTheirDay 23 = .ok (.invokevirtual 169, 3) := by decide +kernel
theorem dX7_letInnsPostOnTheirDay_26 : decode cX7_letInnsPostOnTheirDay 26 = .ok (.return_, 1) := by decide +kernel
set_option maxRecDepth 100000 in
set_option maxHeartbeats 4000000 in
theorem c_X7_letInnsPostOnTheirDay (l : Launch) (D : va_G) (cas : Nat → ClassId) (ad : Nat → Nat) (hi : zInj ad) {k : Nat}  (hk : k < zN ∧ lay k = (0, 7)) {r : Int} {M M' : Mem} (hf : f_X7_letInnsPostOnTheirDay k M = some (r, M')) : zMv l D cas ad yX7_letInnsPostOnTheirDay cX7_letInnsPostOnTheirDay 2 3 68 [.ref (ad k)] M M' := by
  refine zbody (by decide) (Nat.le_of_ble_eq_true rfl) hi ?_
  intro p e s m args below meth c X hr hk0
  have X : zX p s m args c cX7_letInnsPostOnTheirDay "ShardTrails$State" 2 D cas ad (zA ad) := X
  have hB26 : ∀ (M : Mem), f_X7_letInnsPostOnTheirDay_b26 k M = some (r, M') → WW p l e (zrm 3 68) s m args below meth c D cas ad (zA ad) 2 0 0 (MQ below (zQv D cas ad M') args s 0 0 (zA ad)) 26 [] [] M := by
    intro M hf
    unfold f_X7_letInnsPostOnTheirDay_b26 at hf
    exact R_vret X hr hk0 dX7_letInnsPostOnTheirDay_26 hf
  unfold f_X7_letInnsPostOnTheirDay at hf
  refine (?_ : WW p l e (zrm 3 68) s m args below meth c D cas ad (zA ad) 2 0 0 (MQ below (zQv D cas ad M') args s 0 0 (zA ad)) 0 [(0, .ref (ad k))] [] M)
  refine R_aload_n X 0 dX7_letInnsPostOnTheirDay_0 rfl rfl ?_
  have hp1 : k + 1 < zN ∧ lay (k + 1) = (1, 6) := pt_7_3 _ hk.1 hk.2
  refine R_getR X (j := 3) 1 (k + 1) hk rfl inX7 (by decide) rfl rfl (by decide) rfl rfl wf_X7_18 dX7_letInnsPostOnTheirDay_1 ?_
  refine R_iconst X dX7_letInnsPostOnTheirDay_4 ?_
  refine R_iald X hp1 (by decide) dX7_letInnsPostOnTheirDay_5 ?_
  obtain ⟨x2, ex2, hf⟩ := zlt_some hf
  refine R_istore_nX X (lv' := [(1, .int (zI x2)), (0, .ref (ad k))]) ex2 dX7_letInnsPostOnTheirDay_6 rfl (by decide) rfl ?_
  refine R_iload_n X 0 dX7_letInnsPostOnTheirDay_7 rfl rfl ?_
  obtain ⟨hq3, hf⟩ := zgrd hf
  refine R_if_le X 26 hq3 dX7_letInnsPostOnTheirDay_8 (by decide) (fun c11 => ?_) (fun c11 => ?_)
  · have hf := zthen hf c11
    exact R_sub [] rfl (hB26 M hf)
  · have hf := zelse hf c11
    refine R_aload_n X 1 dX7_letInnsPostOnTheirDay_11 rfl rfl ?_
    refine R_getI X (j := 0) hk rfl inX7 (by decide) rfl rfl rfl wf_X7_67 dX7_letInnsPostOnTheirDay_12 ?_
    refine R_iconst X dX7_letInnsPostOnTheirDay_15 ?_
    refine R_iadd X dX7_letInnsPostOnTheirDay_16 ?_
    refine R_iload_n X 0 dX7_letInnsPostOnTheirDay_17 rfl rfl ?_
    obtain ⟨hq4, hf⟩ := zgrd hf
    obtain ⟨hq5, hf⟩ := zgrd hf
    refine R_irem X ⟨⟨hq4, hq3⟩, hq5⟩ dX7_letInnsPostOnTheirDay_18 ?_
    obtain ⟨hq6, hf⟩ := zgrd hf
    refine R_if_ne X 26 hq6 dX7_letInnsPostOnTheirDay_19 (by decide) (fun c10 => ?_) (fun c10 => ?_)
    · have hf := zelse hf c10
      exact R_sub [] rfl (hB26 M hf)
    · have hf := zthen hf c10
      refine R_aload_n X 1 dX7_letInnsPostOnTheirDay_22 rfl rfl ?_
      obtain ⟨r7, M8, hc9, hf⟩ := zbnd_some hf
      refine R_callVv X (av := []) (rest := []) (c_X7_letInnsPost l D cas ad hi hk hc9) zy_X7_letInnsPost hk rfl rfl wm_X7_169 rfl rfl ⟨Nat.le_of_ble_eq_true rfl, Nat.le_of_ble_eq_true rfl⟩ ⟨Nat.le_refl _, Nat.le_refl _⟩ (Nat.le_of_ble_eq_true rfl) dX7_letInnsPostOnTheirDay_23 ?_
      exact R_sub [] rfl (hB26 M8 hf)
theorem dX7_letTracksGrowOver_0 : decode cX7_letTracksGrowOver 0 = .ok (.iconst 0, 1) := by decide +kernel
theorem dX7_letTracksGrowOver_1 : decode cX7_letTracksGrowOver 1 = .ok (.istore_n 1, 1) := by decide +kernel
theorem dX7_letTracksGrowOver_2 : decode cX7_letTracksGrowOver 2 = .ok (.iload_n 1, 1) := by decide +kernel
theorem dX7_letTracksGrowOver_3 : decode cX7_letTracksGrowOver 3 = .ok (.aload_n 0, 1) := by decide +kernel
theorem dX7_letTracksGrowOver_4 : decode cX7_letTracksGrowOver 4 = .ok (.getfield 32, 3) := by decide +kernel
theorem dX7_letTracksGrowOver_7 : decode cX7_letTracksGrowOver 7 = .ok (.getfield 119, 3) := by decide +kernel
theorem dX7_letTracksGrowOver_10 : decode cX7_letTracksGrowOver 10 = .ok (.if_icmp .ge 49, 3) := by decide +kernel
theorem dX7_letTracksGrowOver_13 : decode cX7_letTracksGrowOver 13 = .ok (.aload_n 0, 1) := by decide +kernel
theorem dX7_letTracksGrowOver_14 : decode cX7_letTracksGrowOver 14 = .ok (.getfield 32, 3) := by decide +kernel
theorem dX7_letTracksGrowOver_17 : decode cX7_letTracksGrowOver 17 = .ok (.getfield 131, 3) := by decide +kernel
theorem dX7_letTracksGrowOver_20 : decode cX7_letTracksGrowOver 20 = .ok (.iload_n 1, 1) := by decide +kernel
theorem dX7_letTracksGrowOver_21 : decode cX7_letTracksGrowOver 21 = .ok (.baload, 1) := by decide +kernel
theorem dX7_letTracksGrowOver_22 : decode cX7_letTracksGrowOver 22 = .ok (.ifCond .ne 31, 3) := by decide +kernel
theorem dX7_letTracksGrowOver_25 : decode cX7_letTracksGrowOver 25 = .ok (.aload_n 0, 1) := by decide +kernel
theorem dX7_letTracksGrowOver_26 : decode cX7_letTracksGrowOver 26 = .ok (.dup, 1) := by decide +kernel
theorem dX7_letTracksGrowOver_27 : decode cX7_letTracksGrowOver 27 = .ok (.getfield 74, 3) := by decide +kernel
theorem dX7_letTracksGrowOver_30 : decode cX7_letTracksGrowOver 30 = .ok (.aload_n 0, 1) := by decide +kernel
theorem dX7_letTracksGrowOver_31 : decode cX7_letTracksGrowOver 31 = .ok (.getfield 39, 3) := by decide +kernel
theorem dX7_letTracksGrowOver_34 : decode cX7_letTracksGrowOver 34 = .ok (.aload_n 0, 1) := by decide +kernel
theorem dX7_letTracksGrowOver_35 : decode cX7_letTracksGrowOver 35 = .ok (.getfield 67, 3) := by decide +kernel
theorem dX7_letTracksGrowOver_38 : decode cX7_letTracksGrowOver 38 = .ok (.aload_n 0, 1) := by decide +kernel
theorem dX7_letTracksGrowOver_39 : decode cX7_letTracksGrowOver 39 = .ok (.getfield 18, 3) := by decide +kernel
theorem dX7_letTracksGrowOver_42 : decode cX7_letTracksGrowOver 42 = .ok (.iconst 1, 1) := by decide +kernel
theorem dX7_letTracksGrowOver_43 : decode cX7_letTracksGrowOver 43 = .ok (.iaload, 1) := by decide +kernel
theorem dX7_letTracksGrowOver_44 : decode cX7_letTracksGrowOver 44 = .ok (.isub, 1) := by decide +kernel
theorem dX7_letTracksGrowOver_45 : decode cX7_letTracksGrowOver 45 = .ok (.iload_n 1, 1) := by decide +kernel
theorem dX7_letTracksGrowOver_46 : decode cX7_letTracksGrowOver 46 = .ok (.invokevirtual 135, 3) := by decide +kernel
theorem dX7_letTracksGrowOver_49 : decode cX7_letTracksGrowOver 49 = .ok (.iadd, 1) := by decide +kernel
theorem dX7_letTracksGrowOver_50 : decode cX7_letTracksGrowOver 50 = .ok (.putfield 74, 3) := by decide +kernel
theorem dX7_letTracksGrowOver_53 : decode cX7_letTracksGrowOver 53 = .ok (.iinc 1 1, 3) := by decide +kernel
theorem dX7_letTracksGrowOver_56 : decode cX7_letTracksGrowOver 56 = .ok (.goto (-54), 3) := by decide +kernel
theorem dX7_letTracksGrowOver_59 : decode cX7_letTracksGrowOver 59 = .ok (.return_, 1) := by decide +kernel
set_option maxRecDepth 100000 in
set_option maxHeartbeats 4000000 in
theorem c_X7_letTracksGrowOver (l : Launch) (D : va_G) (cas : Nat → ClassId) (ad : Nat → Nat) (hi : zInj ad) {k : Nat}  (hk : k < zN ∧ lay k = (0, 7)) {r : Int} {M M' : Mem} (hf : f_X7_letTracksGrowOver k M = some (r, M')) : zMv l D cas ad yX7_letTracksGrowOver cX7_letTracksGrowOver 2 3 67 [.ref (ad k)] M M' := by
  refine zbody (by decide) (Nat.le_of_ble_eq_true rfl) hi ?_
  intro p e s m args below meth c X hr hk0
  have X : zX p s m args c cX7_letTracksGrowOver "ShardTrails$State" 2 D cas ad (zA ad) := X
  have hB53 : ∀ (g2 : Int → Mem → Option (Int × Mem)) (hg2 : ∀ (v1 : Int) (M : Mem), g2 v1 M = some (r, M') → WW p l e (zrm 3 67) s m args below meth c D cas ad (zA ad) 2 0 0 (MQ below (zQv D cas ad M') args s 0 0 (zA ad)) 2 [(0, .ref (ad k)), (1, .int (zI v1))] [] M) (v1 : Int) (M : Mem), f_X7_letTracksGrowOver_b53 g2 k v1 M = some (r, M') → WW p l e (zrm 3 67) s m args below meth c D cas ad (zA ad) 2 0 0 (MQ below (zQv D cas ad M') args s 0 0 (zA ad)) 53 [(0, .ref (ad k)), (1, .int (zI v1))] [] M := by
    intro g2 hg2 v1 M hf
    unfold f_X7_letTracksGrowOver_b53 at hf
    refine R_iinc X (lv' := [(1, .int (zI (v1 + 1))), (0, .ref (ad k))]) 1 dX7_letTracksGrowOver_53 rfl (by decide) rfl ?_
    refine R_goto X 2 dX7_letTracksGrowOver_56 (by decide) ?_
    exact R_sub [1, 0] rfl (hg2 (v1 + 1) M hf)
  have hB2 : ∀ (n : Nat) (v1 : Int) (M : Mem), f_X7_letTracksGrowOver_b2 k n v1 M = some (r, M') → WW p l e (zrm 3 67) s m args below meth c D cas ad (zA ad) 2 0 0 (MQ below (zQv D cas ad M') args s 0 0 (zA ad)) 2 [(0, .ref (ad k)), (1, .int (zI v1))] [] M := by
    intro n
    induction n with
    | zero => intro v1 M hf; exact absurd hf (by unfold f_X7_letTracksGrowOver_b2; simp)
    | succ n ih =>
      intro v1 M hf
      unfold f_X7_letTracksGrowOver_b2 at hf
      refine R_iload_n X 1 dX7_letTracksGrowOver_2 rfl rfl ?_
      refine R_aload_n X 0 dX7_letTracksGrowOver_3 rfl rfl ?_
      have hp1 : k + 3 < zN ∧ lay (k + 3) = (0, 2) := pt_7_5 _ hk.1 hk.2
      refine R_getR X (j := 5) 3 (k + 3) hk rfl inX7 (by decide) rfl rfl (by decide) rfl rfl wf_X7_32 dX7_letTracksGrowOver_4 ?_
      refine R_getI X (j := 0) hp1 rfl inX2 (by decide) rfl rfl rfl wf_X7_119 dX7_letTracksGrowOver_7 ?_
      obtain ⟨hq2, hf⟩ := zgrd hf
      obtain ⟨hq3, hf⟩ := zgrd hf
      refine R_icmp_ge X 59 ⟨hq2, hq3⟩ dX7_letTracksGrowOver_10 (by decide) (fun c14 => ?_) (fun c14 => ?_)
      · have hf := zthen hf c14
        exact R_vret X hr hk0 dX7_letTracksGrowOver_59 hf
      · have hf := zelse hf c14
        refine R_aload_n X 0 dX7_letTracksGrowOver_13 rfl rfl ?_
        refine R_getR X (j := 5) 3 (k + 3) hk rfl inX7 (by decide) rfl rfl (by decide) rfl rfl wf_X7_32 dX7_letTracksGrowOver_14 ?_
        have hp4 : k + 8 < zN ∧ lay (k + 8) = (2, 8) := pt_2_5 _ hp1.1 hp1.2
        refine R_getR X (j := 5) 5 (k + 8) hp1 rfl inX2 (by decide) rfl rfl (by decide) rfl rfl wf_X7_131 dX7_letTracksGrowOver_17 ?_
        refine R_iload_n X 1 dX7_letTracksGrowOver_20 rfl rfl ?_
        obtain ⟨hq5, hf⟩ := zgrd hf
        refine R_zald X hp4 hq5 dX7_letTracksGrowOver_21 ?_
        obtain ⟨hq6, hf⟩ := zgrd hf
        refine R_if_ne X 53 hq6 dX7_letTracksGrowOver_22 (by decide) (fun c13 => ?_) (fun c13 => ?_)
        · have hf := zelse hf c13
          exact R_sub [0, 1] rfl (hB53 (f_X7_letTracksGrowOver_b2 k n) ih v1 M hf)
        · have hf := zthen hf c13
          refine R_aload_n X 0 dX7_letTracksGrowOver_25 rfl rfl ?_
          refine R_dup X dX7_letTracksGrowOver_26 rfl ?_
          refine R_getI X (j := 2) hk rfl inX7 (by decide) rfl rfl rfl wf_X7_74 dX7_letTracksGrowOver_27 ?_
          refine R_aload_n X 0 dX7_letTracksGrowOver_30 rfl rfl ?_
          have hp7 : k + 10 < zN ∧ lay (k + 10) = (0, 8) := pt_7_6 _ hk.1 hk.2
          refine R_getR X (j := 6) 10 (k + 10) hk rfl inX7 (by decide) rfl rfl (by decide) rfl rfl wf_X7_39 dX7_letTracksGrowOver_31 ?_
          refine R_aload_n X 0 dX7_letTracksGrowOver_34 rfl rfl ?_
          refine R_getI X (j := 0) hk rfl inX7 (by decide) rfl rfl rfl wf_X7_67 dX7_letTracksGrowOver_35 ?_
          refine R_aload_n X 0 dX7_letTracksGrowOver_38 rfl rfl ?_
          have hp8 : k + 1 < zN ∧ lay (k + 1) = (1, 6) := pt_7_3 _ hk.1 hk.2
          refine R_getR X (j := 3) 1 (k + 1) hk rfl inX7 (by decide) rfl rfl (by decide) rfl rfl wf_X7_18 dX7_letTracksGrowOver_39 ?_
          refine R_iconst X dX7_letTracksGrowOver_42 ?_
          refine R_iald X hp8 (by decide) dX7_letTracksGrowOver_43 ?_
          refine R_isub X dX7_letTracksGrowOver_44 ?_
          refine R_iload_n X 1 dX7_letTracksGrowOver_45 rfl rfl ?_
          obtain ⟨r9, M10, hc11, hf⟩ := zbnd_some hf
          refine R_callVi X (av := [.int (zI ((M k 0) - (M (k + 1) 1))), .int (zI v1)]) (rest := [.int (zI (M k 2)), .ref (ad k)]) (c_X8_removeLeftUntil l D cas ad hi hp7 hc11) zy_X8_removeLeftUntil hp7 rfl rfl wm_X7_135 rfl rfl ⟨Nat.le_of_ble_eq_true rfl, Nat.le_of_ble_eq_true rfl⟩ ⟨Nat.le_refl _, Nat.le_refl _⟩ (Nat.le_of_ble_eq_true rfl) dX7_letTracksGrowOver_46 ?_
          refine R_iadd X dX7_letTracksGrowOver_49 ?_
          obtain ⟨M12, eM12, hf⟩ := zlt_some hf
          refine R_put X (j := 2) hk rfl inX7 tyX7_ok nmX7 (by decide) rfl rfl rfl wf_X7_74 rfl (by decide +kernel) (z_nI _) (z_fI _) dX7_letTracksGrowOver_50 ?_
          refine R_mem eM12 ?_
          exact R_sub [0, 1] rfl (hB53 (f_X7_letTracksGrowOver_b2 k n) ih v1 M12 hf)
  unfold f_X7_letTracksGrowOver at hf
  refine (?_ : WW p l e (zrm 3 67) s m args below meth c D cas ad (zA ad) 2 0 0 (MQ below (zQv D cas ad M') args s 0 0 (zA ad)) 0 [(0, .ref (ad k))] [] M)
  refine R_iconst X dX7_letTracksGrowOver_0 ?_
  refine R_istore_n X (lv' := [(1, .int (zI 0)), (0, .ref (ad k))]) dX7_letTracksGrowOver_1 rfl (by decide) rfl ?_
  exact R_sub [1, 0] rfl (hB2 100000 0 M hf)
theorem dX3_advance_0 : decode cX3_advance 0 = .ok (.iload_n 2, 1) := by decide +kernel
theorem dX3_advance_1 : decode cX3_advance 1 = .ok (.ifCond .le 24, 3) := by decide +kernel
theorem dX3_advance_4 : decode cX3_advance 4 = .ok (.aload_n 0, 1) := by decide +kernel
theorem dX3_advance_5 : decode cX3_advance 5 = .ok (.getfield 9, 3) := by decide +kernel
theorem dX3_advance_8 : decode cX3_advance 8 = .ok (.iload_n 1, 1) := by decide +kernel
theorem dX3_advance_9 : decode cX3_advance 9 = .ok (.aload_n 0, 1) := by decide +kernel
theorem dX3_advance_10 : decode cX3_advance 10 = .ok (.getfield 9, 3) := by decide +kernel
theorem dX3_advance_13 : decode cX3_advance 13 = .ok (.iload_n 1, 1) := by decide +kernel
theorem dX3_advance_14 : decode cX3_advance 14 = .ok (.iaload, 1) := by decide +kernel
theorem dX3_advance_15 : decode cX3_advance 15 = .ok (.aload_n 0, 1) := by decide +kernel
theorem dX3_advance_16 : decode cX3_advance 16 = .ok (.getfield 15, 3) := by decide +kernel
theorem dX3_advance_19 : decode cX3_advance 19 = .ok (.iload_n 1, 1) := by decide +kernel
theorem dX3_advance_20 : decode cX3_advance 20 = .ok (.iaload, 1) := by decide +kernel
theorem dX3_advance_21 : decode cX3_advance 21 = .ok (.iadd, 1) := by decide +kernel
theorem dX3_advance_22 : decode cX3_advance 22 = .ok (.iload_n 2, 1) := by decide +kernel
theorem dX3_advance_23 : decode cX3_advance 23 = .ok (.irem, 1) := by decide +kernel
theorem dX3_advance_24 : decode cX3_advance 24 = .ok (.iastore, 1) := by decide +kernel
theorem dX3_advance_25 : decode cX3_advance 25 = .ok (.return_, 1) := by decide +kernel
set_option maxRecDepth 100000 in
set_option maxHeartbeats 4000000 in
theorem c_X3_advance (l : Launch) (D : va_G) (cas : Nat → ClassId) (ad : Nat → Nat) (hi : zInj ad) {k : Nat} {v1 : Int} {v2 : Int} (hk : k < zN ∧ lay k = (0, 3)) {r : Int} {M M' : Mem} (hf : f_X3_advance k v1 v2 M = some (r, M')) : zMv l D cas ad yX3_advance cX3_advance 3 0 0 [.ref (ad k), .int (zI v1), .int (zI v2)] M M' := by
  refine zbody (by decide) (Nat.le_of_ble_eq_true rfl) hi ?_
  intro p e s m args below meth c X hr hk0
  have X : zX p s m args c cX3_advance "ShardTrails$Pack" 3 D cas ad (zA ad) := X
  have hB25 : ∀ (M : Mem), f_X3_advance_b25 k M = some (r, M') → WW p l e (zrm 0 0) s m args below meth c D cas ad (zA ad) 3 0 0 (MQ below (zQv D cas ad M') args s 0 0 (zA ad)) 25 [] [] M := by
    intro M hf
    unfold f_X3_advance_b25 at hf
    exact R_vret X hr hk0 dX3_advance_25 hf
  unfold f_X3_advance at hf
  refine (?_ : WW p l e (zrm 0 0) s m args below meth c D cas ad (zA ad) 3 0 0 (MQ below (zQv D cas ad M') args s 0 0 (zA ad)) 0 [(0, .ref (ad k)), (1, .int (zI v1)), (2, .int (zI v2))] [] M)
  refine R_iload_n X 2 dX3_advance_0 rfl rfl ?_
  obtain ⟨hq1, hf⟩ := zgrd hf
  refine R_if_le X 25 hq1 dX3_advance_1 (by decide) (fun c8 => ?_) (fun c8 => ?_)
  · have hf := zthen hf c8
    exact R_sub [] rfl (hB25 M hf)
  · have hf := zelse hf c8
    refine R_aload_n X 0 dX3_advance_4 rfl rfl ?_
    have hp2 : k + 1 < zN ∧ lay (k + 1) = (1, 3) := pt_3_1 _ hk.1 hk.2
    refine R_getR X (j := 1) 1 (k + 1) hk rfl inX3 (by decide) rfl rfl (by decide) rfl rfl wf_X3_9 dX3_advance_5 ?_
    refine R_iload_n X 1 dX3_advance_8 rfl rfl ?_
    refine R_aload_n X 0 dX3_advance_9 rfl rfl ?_
    refine R_getR X (j := 1) 1 (k + 1) hk rfl inX3 (by decide) rfl rfl (by decide) rfl rfl wf_X3_9 dX3_advance_10 ?_
    refine R_iload_n X 1 dX3_advance_13 rfl rfl ?_
    obtain ⟨hq3, hf⟩ := zgrd hf
    refine R_iald X hp2 hq3 dX3_advance_14 ?_
    refine R_aload_n X 0 dX3_advance_15 rfl rfl ?_
    have hp4 : k + 2 < zN ∧ lay (k + 2) = (1, 3) := pt_3_2 _ hk.1 hk.2
    refine R_getR X (j := 2) 2 (k + 2) hk rfl inX3 (by decide) rfl rfl (by decide) rfl rfl wf_X3_15 dX3_advance_16 ?_
    refine R_iload_n X 1 dX3_advance_19 rfl rfl ?_
    refine R_iald X hp4 hq3 dX3_advance_20 ?_
    refine R_iadd X dX3_advance_21 ?_
    refine R_iload_n X 2 dX3_advance_22 rfl rfl ?_
    obtain ⟨hq5, hf⟩ := zgrd hf
    obtain ⟨hq6, hf⟩ := zgrd hf
    refine R_irem X ⟨⟨hq5, hq1⟩, hq6⟩ dX3_advance_23 ?_
    obtain ⟨M7, eM7, hf⟩ := zlt_some hf
    refine R_iast X hp2 hq3 dX3_advance_24 ?_
    refine R_mem eM7 ?_
    exact R_sub [] rfl (hB25 M7 hf)
theorem dX7_letWolvesGo_0 : decode cX7_letWolvesGo 0 = .ok (.iconst 0, 1) := by decide +kernel
theorem dX7_letWolvesGo_1 : decode cX7_letWolvesGo 1 = .ok (.istore_n 1, 1) := by decide +kernel
theorem dX7_letWolvesGo_2 : decode cX7_letWolvesGo 2 = .ok (.iload_n 1, 1) := by decide +kernel
theorem dX7_letWolvesGo_3 : decode cX7_letWolvesGo 3 = .ok (.aload_n 0, 1) := by decide +kernel
theorem dX7_letWolvesGo_4 : decode cX7_letWolvesGo 4 = .ok (.getfield 53, 3) := by decide +kernel
theorem dX7_letWolvesGo_7 : decode cX7_letWolvesGo 7 = .ok (.getfield 116, 3) := by decide +kernel
theorem dX7_letWolvesGo_10 : decode cX7_letWolvesGo 10 = .ok (.if_icmp .ge 30, 3) := by decide +kernel
theorem dX7_letWolvesGo_13 : decode cX7_letWolvesGo 13 = .ok (.aload_n 0, 1) := by decide +kernel
theorem dX7_letWolvesGo_14 : decode cX7_letWolvesGo 14 = .ok (.getfield 53, 3) := by decide +kernel
theorem dX7_letWolvesGo_17 : decode cX7_letWolvesGo 17 = .ok (.iload_n 1, 1) := by decide +kernel
theorem dX7_letWolvesGo_18 : decode cX7_letWolvesGo 18 = .ok (.aload_n 0, 1) := by decide +kernel
theorem dX7_letWolvesGo_19 : decode cX7_letWolvesGo 19 = .ok (.getfield 32, 3) := by decide +kernel
theorem dX7_letWolvesGo_22 : decode cX7_letWolvesGo 22 = .ok (.getfield 119, 3) := by decide +kernel
theorem dX7_letWolvesGo_25 : decode cX7_letWolvesGo 25 = .ok (.invokevirtual 120, 3) := by decide +kernel
theorem dX7_letWolvesGo_28 : decode cX7_letWolvesGo 28 = .ok (.aload_n 0, 1) := by decide +kernel
theorem dX7_letWolvesGo_29 : decode cX7_letWolvesGo 29 = .ok (.iload_n 1, 1) := by decide +kernel
theorem dX7_letWolvesGo_30 : decode cX7_letWolvesGo 30 = .ok (.invokevirtual 124, 3) := by decide +kernel
theorem dX7_letWolvesGo_33 : decode cX7_letWolvesGo 33 = .ok (.pop, 1) := by decide +kernel
theorem dX7_letWolvesGo_34 : decode cX7_letWolvesGo 34 = .ok (.iinc 1 1, 3) := by decide +kernel
theorem dX7_letWolvesGo_37 : decode cX7_letWolvesGo 37 = .ok (.goto (-35), 3) := by decide +kernel
theorem dX7_letWolvesGo_40 : decode cX7_letWolvesGo 40 = .ok (.return_, 1) := by decide +kernel
set_option maxRecDepth 100000 in
set_option maxHeartbeats 4000000 in
theorem c_X7_letWolvesGo (l : Launch) (D : va_G) (cas : Nat → ClassId) (ad : Nat → Nat) (hi : zInj ad) {k : Nat}  (hk : k < zN ∧ lay k = (0, 7)) {r : Int} {M M' : Mem} (hf : f_X7_letWolvesGo k M = some (r, M')) : zMv l D cas ad yX7_letWolvesGo cX7_letWolvesGo 2 4 90 [.ref (ad k)] M M' := by
  refine zbody (by decide) (Nat.le_of_ble_eq_true rfl) hi ?_
  intro p e s m args below meth c X hr hk0
  have X : zX p s m args c cX7_letWolvesGo "ShardTrails$State" 2 D cas ad (zA ad) := X
  have hB2 : ∀ (n : Nat) (v1 : Int) (M : Mem), f_X7_letWolvesGo_b2 k n v1 M = some (r, M') → WW p l e (zrm 4 90) s m args below meth c D cas ad (zA ad) 2 0 0 (MQ below (zQv D cas ad M') args s 0 0 (zA ad)) 2 [(0, .ref (ad k)), (1, .int (zI v1))] [] M := by
    intro n
    induction n with
    | zero => intro v1 M hf; exact absurd hf (by unfold f_X7_letWolvesGo_b2; simp)
    | succ n ih =>
      intro v1 M hf
      unfold f_X7_letWolvesGo_b2 at hf
      refine R_iload_n X 1 dX7_letWolvesGo_2 rfl rfl ?_
      refine R_aload_n X 0 dX7_letWolvesGo_3 rfl rfl ?_
      have hp1 : k + 18 < zN ∧ lay (k + 18) = (0, 3) := pt_7_8 _ hk.1 hk.2
      refine R_getR X (j := 8) 18 (k + 18) hk rfl inX7 (by decide) rfl rfl (by decide) rfl rfl wf_X7_53 dX7_letWolvesGo_4 ?_
      refine R_getI X (j := 0) hp1 rfl inX3 (by decide) rfl rfl rfl wf_X7_116 dX7_letWolvesGo_7 ?_
      obtain ⟨hq2, hf⟩ := zgrd hf
      obtain ⟨hq3, hf⟩ := zgrd hf
      refine R_icmp_ge X 40 ⟨hq2, hq3⟩ dX7_letWolvesGo_10 (by decide) (fun c11 => ?_) (fun c11 => ?_)
      · have hf := zthen hf c11
        exact R_vret X hr hk0 dX7_letWolvesGo_40 hf
      · have hf := zelse hf c11
        refine R_aload_n X 0 dX7_letWolvesGo_13 rfl rfl ?_
        refine R_getR X (j := 8) 18 (k + 18) hk rfl inX7 (by decide) rfl rfl (by decide) rfl rfl wf_X7_53 dX7_letWolvesGo_14 ?_
        refine R_iload_n X 1 dX7_letWolvesGo_17 rfl rfl ?_
        refine R_aload_n X 0 dX7_letWolvesGo_18 rfl rfl ?_
        have hp4 : k + 3 < zN ∧ lay (k + 3) = (0, 2) := pt_7_5 _ hk.1 hk.2
        refine R_getR X (j := 5) 3 (k + 3) hk rfl inX7 (by decide) rfl rfl (by decide) rfl rfl wf_X7_32 dX7_letWolvesGo_19 ?_
        refine R_getI X (j := 0) hp4 rfl inX2 (by decide) rfl rfl rfl wf_X7_119 dX7_letWolvesGo_22 ?_
        obtain ⟨r5, M6, hc7, hf⟩ := zbnd_some hf
        refine R_callVv X (av := [.int (zI v1), .int (zI (M (k + 3) 0))]) (rest := []) (c_X3_advance l D cas ad hi hp1 hc7) zy_X3_advance hp1 rfl rfl wm_X7_120 rfl rfl ⟨Nat.le_of_ble_eq_true rfl, Nat.le_of_ble_eq_true rfl⟩ ⟨Nat.le_refl _, Nat.le_refl _⟩ (Nat.le_of_ble_eq_true rfl) dX7_letWolvesGo_25 ?_
        refine R_aload_n X 0 dX7_letWolvesGo_28 rfl rfl ?_
        refine R_iload_n X 1 dX7_letWolvesGo_29 rfl rfl ?_
        obtain ⟨r8, M9, hc10, hf⟩ := zbnd_some hf
        refine R_callVi X (av := [.int (zI v1)]) (rest := []) (c_X7_letWolfCut l D cas ad hi hk hc10) zy_X7_letWolfCut hk rfl rfl wm_X7_124 rfl rfl ⟨Nat.le_of_ble_eq_true rfl, Nat.le_of_ble_eq_true rfl⟩ ⟨Nat.le_refl _, Nat.le_refl _⟩ (Nat.le_of_ble_eq_true rfl) dX7_letWolvesGo_30 ?_
        refine R_pop X dX7_letWolvesGo_33 rfl ?_
        refine R_iinc X (lv' := [(1, .int (zI (v1 + 1))), (0, .ref (ad k))]) 1 dX7_letWolvesGo_34 rfl (by decide) rfl ?_
        refine R_goto X 2 dX7_letWolvesGo_37 (by decide) ?_
        exact R_sub [1, 0] rfl (ih (v1 + 1) M9 hf)
  unfold f_X7_letWolvesGo at hf
  refine (?_ : WW p l e (zrm 4 90) s m args below meth c D cas ad (zA ad) 2 0 0 (MQ below (zQv D cas ad M') args s 0 0 (zA ad)) 0 [(0, .ref (ad k))] [] M)
  refine R_iconst X dX7_letWolvesGo_0 ?_
  refine R_istore_n X (lv' := [(1, .int (zI 0)), (0, .ref (ad k))]) dX7_letWolvesGo_1 rfl (by decide) rfl ?_
  exact R_sub [1, 0] rfl (hB2 100000 0 M hf)
theorem dX7_passDay_0 : decode cX7_passDay 0 = .ok (.aload_n 0, 1) := by decide +kernel
theorem dX7_passDay_1 : decode cX7_passDay 1 = .ok (.getfield 46, 3) := by decide +kernel
theorem dX7_passDay_4 : decode cX7_passDay 4 = .ok (.invokevirtual 101, 3) := by decide +kernel
theorem dX7_passDay_7 : decode cX7_passDay 7 = .ok (.aload_n 0, 1) := by decide +kernel
theorem dX7_passDay_8 : decode cX7_passDay 8 = .ok (.invokevirtual 104, 3) := by decide +kernel
theorem dX7_passDay_11 : decode cX7_passDay 11 = .ok (.aload_n 0, 1) := by decide +kernel
theorem dX7_passDay_12 : decode cX7_passDay 12 = .ok (.invokevirtual 107, 3) := by decide +kernel
theorem dX7_passDay_15 : decode cX7_passDay 15 = .ok (.aload_n 0, 1) := by decide +kernel
theorem dX7_passDay_16 : decode cX7_passDay 16 = .ok (.invokevirtual 110, 3) := by decide +kernel
theorem dX7_passDay_19 : decode cX7_passDay 19 = .ok (.istore_n 1, 1) := by decide +kernel
theorem dX7_passDay_20 : decode cX7_passDay 20 = .ok (.aload_n 0, 1) := by decide +kernel
theorem dX7_passDay_21 : decode cX7_passDay 21 = .ok (.invokevirtual 113, 3) := by decide +kernel
theorem dX7_passDay_24 : decode cX7_passDay 24 = .ok (.aload_n 0, 1) := by decide +kernel
theorem dX7_passDay_25 : decode cX7_passDay 25 = .ok (.dup, 1) := by decide +kernel
theorem dX7_passDay_26 : decode cX7_passDay 26 = .ok (.getfield 67, 3) := by decide +kernel
theorem dX7_passDay_29 : decode cX7_passDay 29 = .ok (.iconst 1, 1) := by decide +kernel
theorem dX7_passDay_30 : decode cX7_passDay 30 = .ok (.iadd, 1) := by decide +kernel
theorem dX7_passDay_31 : decode cX7_passDay 31 = .ok (.putfield 67, 3) := by decide +kernel
theorem dX7_passDay_34 : decode cX7_passDay 34 = .ok (.iload_n 1, 1) := by decide +kernel
theorem dX7_passDay_35 : decode cX7_passDay 35 = .ok (.ireturn, 1) := by decide +kernel
set_option maxRecDepth 100000 in
set_option maxHeartbeats 4000000 in
theorem c_X7_passDay (l : Launch) (D : va_G) (cas : Nat → ClassId) (ad : Nat → Nat) (hi : zInj ad) {k : Nat}  (hk : k < zN ∧ lay k = (0, 7)) {r : Int} {M M' : Mem} (hf : f_X7_passDay k M = some (r, M')) : zMi l D cas ad yX7_passDay cX7_passDay 2 (some .int) 5 111 [.ref (ad k)] M r M' := by
  refine zbody (by decide) (Nat.le_of_ble_eq_true rfl) hi ?_
  intro p e s m args below meth c X hr hk0
  have X : zX p s m args c cX7_passDay "ShardTrails$State" 2 D cas ad (zA ad) := X
  unfold f_X7_passDay at hf
  refine (?_ : WW p l e (zrm 5 111) s m args below meth c D cas ad (zA ad) 2 0 0 (MQ below (zQi D cas ad r M') args s 0 0 (zA ad)) 0 [(0, .ref (ad k))] [] M)
  refine R_aload_n X 0 dX7_passDay_0 rfl rfl ?_
  have hp1 : k + 13 < zN ∧ lay (k + 13) = (0, 0) := pt_7_7 _ hk.1 hk.2
  refine R_getR X (j := 7) 13 (k + 13) hk rfl inX7 (by decide) rfl rfl (by decide) rfl rfl wf_X7_46 dX7_passDay_1 ?_
  obtain ⟨r2, M3, hc4, hf⟩ := zbnd_some hf
  refine R_callVv X (av := []) (rest := []) (c_X0_cool l D cas ad hi hp1 hc4) zy_X0_cool hp1 rfl rfl wm_X7_101 rfl rfl ⟨Nat.le_of_ble_eq_true rfl, Nat.le_of_ble_eq_true rfl⟩ ⟨Nat.le_refl _, Nat.le_refl _⟩ (Nat.le_of_ble_eq_true rfl) dX7_passDay_4 ?_
  refine R_aload_n X 0 dX7_passDay_7 rfl rfl ?_
  obtain ⟨r5, M6, hc7, hf⟩ := zbnd_some hf
  refine R_callVv X (av := []) (rest := []) (c_X7_letWolvesGo l D cas ad hi hk hc7) zy_X7_letWolvesGo hk rfl rfl wm_X7_104 rfl rfl ⟨Nat.le_of_ble_eq_true rfl, Nat.le_of_ble_eq_true rfl⟩ ⟨Nat.le_refl _, Nat.le_refl _⟩ (Nat.le_of_ble_eq_true rfl) dX7_passDay_8 ?_
  refine R_aload_n X 0 dX7_passDay_11 rfl rfl ?_
  obtain ⟨r8, M9, hc10, hf⟩ := zbnd_some hf
  refine R_callVv X (av := []) (rest := []) (c_X7_letTracksGrowOver l D cas ad hi hk hc10) zy_X7_letTracksGrowOver hk rfl rfl wm_X7_107 rfl rfl ⟨Nat.le_of_ble_eq_true rfl, Nat.le_of_ble_eq_true rfl⟩ ⟨Nat.le_refl _, Nat.le_refl _⟩ (Nat.le_of_ble_eq_true rfl) dX7_passDay_12 ?_
  refine R_aload_n X 0 dX7_passDay_15 rfl rfl ?_
  obtain ⟨r11, M12, hc13, hf⟩ := zbnd_some hf
  refine R_callVi X (av := []) (rest := []) (c_X7_driveHerd l D cas ad hi hk hc13) zy_X7_driveHerd hk rfl rfl wm_X7_110 rfl rfl ⟨Nat.le_of_ble_eq_true rfl, Nat.le_of_ble_eq_true rfl⟩ ⟨Nat.le_refl _, Nat.le_refl _⟩ (Nat.le_of_ble_eq_true rfl) dX7_passDay_16 ?_
  refine R_istore_n X (lv' := [(1, .int (zI r11)), (0, .ref (ad k))]) dX7_passDay_19 rfl (by decide) rfl ?_
  refine R_aload_n X 1 dX7_passDay_20 rfl rfl ?_
  obtain ⟨r14, M15, hc16, hf⟩ := zbnd_some hf
  refine R_callVv X (av := []) (rest := []) (c_X7_letInnsPostOnTheirDay l D cas ad hi hk hc16) zy_X7_letInnsPostOnTheirDay hk rfl rfl wm_X7_113 rfl rfl ⟨Nat.le_of_ble_eq_true rfl, Nat.le_of_ble_eq_true rfl⟩ ⟨Nat.le_refl _, Nat.le_refl _⟩ (Nat.le_of_ble_eq_true rfl) dX7_passDay_21 ?_
  refine R_aload_n X 1 dX7_passDay_24 rfl rfl ?_
  refine R_dup X dX7_passDay_25 rfl ?_
  refine R_getI X (j := 0) hk rfl inX7 (by decide) rfl rfl rfl wf_X7_67 dX7_passDay_26 ?_
  refine R_iconst X dX7_passDay_29 ?_
  refine R_iadd X dX7_passDay_30 ?_
  obtain ⟨M17, eM17, hf⟩ := zlt_some hf
  refine R_put X (j := 0) hk rfl inX7 tyX7_ok nmX7 (by decide) rfl rfl rfl wf_X7_67 rfl (by decide +kernel) (z_nI _) (z_fI _) dX7_passDay_31 ?_
  refine R_mem eM17 ?_
  refine R_iload_n X 0 dX7_passDay_34 rfl rfl ?_
  exact R_iret X hr hk0 dX7_passDay_35 hf
theorem dX9_pass_0 : decode cX9_pass 0 = .ok (.iload_n 1, 1) := by decide +kernel
theorem dX9_pass_1 : decode cX9_pass 1 = .ok (.iconst 1, 1) := by decide +kernel
theorem dX9_pass_2 : decode cX9_pass 2 = .ok (.bipush 60, 2) := by decide +kernel
theorem dX9_pass_4 : decode cX9_pass 4 = .ok (.invokestatic 43, 3) := by decide +kernel
theorem dX9_pass_7 : decode cX9_pass 7 = .ok (.ifCond .ne 6, 3) := by decide +kernel
theorem dX9_pass_10 : decode cX9_pass 10 = .ok (.bipush (-2), 2) := by decide +kernel
theorem dX9_pass_12 : decode cX9_pass 12 = .ok (.ireturn, 1) := by decide +kernel
theorem dX9_pass_13 : decode cX9_pass 13 = .ok (.aload_n 0, 1) := by decide +kernel
theorem dX9_pass_14 : decode cX9_pass 14 = .ok (.getfield 12, 3) := by decide +kernel
theorem dX9_pass_17 : decode cX9_pass 17 = .ok (.getfield 121, 3) := by decide +kernel
theorem dX9_pass_20 : decode cX9_pass 20 = .ok (.iload_n 1, 1) := by decide +kernel
theorem dX9_pass_21 : decode cX9_pass 21 = .ok (.iadd, 1) := by decide +kernel
theorem dX9_pass_22 : decode cX9_pass 22 = .ok (.sipush 9999, 3) := by decide +kernel
theorem dX9_pass_25 : decode cX9_pass 25 = .ok (.if_icmp .le 6, 3) := by decide +kernel
theorem dX9_pass_28 : decode cX9_pass 28 = .ok (.bipush (-4), 2) := by decide +kernel
theorem dX9_pass_30 : decode cX9_pass 30 = .ok (.ireturn, 1) := by decide +kernel
theorem dX9_pass_31 : decode cX9_pass 31 = .ok (.aload_n 0, 1) := by decide +kernel
theorem dX9_pass_32 : decode cX9_pass 32 = .ok (.getfield 25, 3) := by decide +kernel
theorem dX9_pass_35 : decode cX9_pass 35 = .ok (.aload_n 0, 1) := by decide +kernel
theorem dX9_pass_36 : decode cX9_pass 36 = .ok (.getfield 12, 3) := by decide +kernel
theorem dX9_pass_39 : decode cX9_pass 39 = .ok (.invokevirtual 57, 3) := by decide +kernel
theorem dX9_pass_42 : decode cX9_pass 42 = .ok (.iconst 0, 1) := by decide +kernel
theorem dX9_pass_43 : decode cX9_pass 43 = .ok (.istore_n 2, 1) := by decide +kernel
theorem dX9_pass_44 : decode cX9_pass 44 = .ok (.iconst 0, 1) := by decide +kernel
theorem dX9_pass_45 : decode cX9_pass 45 = .ok (.istore_n 3, 1) := by decide +kernel
theorem dX9_pass_46 : decode cX9_pass 46 = .ok (.iload_n 3, 1) := by decide +kernel
theorem dX9_pass_47 : decode cX9_pass 47 = .ok (.iload_n 1, 1) := by decide +kernel
theorem dX9_pass_48 : decode cX9_pass 48 = .ok (.if_icmp .ge 19, 3) := by decide +kernel
theorem dX9_pass_51 : decode cX9_pass 51 = .ok (.iload_n 2, 1) := by decide +kernel
theorem dX9_pass_52 : decode cX9_pass 52 = .ok (.aload_n 0, 1) := by decide +kernel
theorem dX9_pass_53 : decode cX9_pass 53 = .ok (.getfield 12, 3) := by decide +kernel
theorem dX9_pass_56 : decode cX9_pass 56 = .ok (.invokevirtual 124, 3) := by decide +kernel
theorem dX9_pass_59 : decode cX9_pass 59 = .ok (.iadd, 1) := by decide +kernel
theorem dX9_pass_60 : decode cX9_pass 60 = .ok (.istore_n 2, 1) := by decide +kernel
theorem dX9_pass_61 : decode cX9_pass 61 = .ok (.iinc 3 1, 3) := by decide +kernel
theorem dX9_pass_64 : decode cX9_pass 64 = .ok (.goto (-18), 3) := by decide +kernel
theorem dX9_pass_67 : decode cX9_pass 67 = .ok (.iload_n 2, 1) := by decide +kernel
theorem dX9_pass_68 : decode cX9_pass 68 = .ok (.ireturn, 1) := by decide +kernel
set_option maxRecDepth 100000 in
set_option maxHeartbeats 4000000 in
theorem c_X9_pass (l : Launch) (D : va_G) (cas : Nat → ClassId) (ad : Nat → Nat) (hi : zInj ad) {v1 : Int}  {r : Int} {M M' : Mem} (hf : f_X9_pass v1 M = some (r, M')) : zMi l D cas ad yX9_pass cX9_pass 4 (some .int) 6 132 [.ref (ad 0), .int (zI v1)] M r M' := by
  refine zbody (by decide) (Nat.le_of_ble_eq_true rfl) hi ?_
  intro p e s m args below meth c X hr hk0
  have X : zX p s m args c cX9_pass "ShardTrails" 4 D cas ad (zA ad) := X
  have hB46 : ∀ (n : Nat) (v1 v2 v3 : Int) (M : Mem), f_X9_pass_b46 n v1 v2 v3 M = some (r, M') → WW p l e (zrm 6 132) s m args below meth c D cas ad (zA ad) 4 0 0 (MQ below (zQi D cas ad r M') args s 0 0 (zA ad)) 46 [(0, .ref (ad 0)), (1, .int (zI v1)), (2, .int (zI v2)), (3, .int (zI v3))] [] M := by
    intro n
    induction n with
    | zero => intro v1 v2 v3 M hf; exact absurd hf (by unfold f_X9_pass_b46; simp)
    | succ n ih =>
      intro v1 v2 v3 M hf
      unfold f_X9_pass_b46 at hf
      refine R_iload_n X 3 dX9_pass_46 rfl rfl ?_
      refine R_iload_n X 1 dX9_pass_47 rfl rfl ?_
      obtain ⟨hq11, hf⟩ := zgrd hf
      obtain ⟨hq12, hf⟩ := zgrd hf
      refine R_icmp_ge X 67 ⟨hq11, hq12⟩ dX9_pass_48 (by decide) (fun c17 => ?_) (fun c17 => ?_)
      · have hf := zthen hf c17
        refine R_iload_n X 2 dX9_pass_67 rfl rfl ?_
        exact R_iret X hr hk0 dX9_pass_68 hf
      · have hf := zelse hf c17
        refine R_iload_n X 2 dX9_pass_51 rfl rfl ?_
        refine R_aload_n X 0 dX9_pass_52 rfl rfl ?_
        refine R_getR X (j := 0) 1 1 lc_0 rfl inX9 (by decide) rfl rfl (by decide) rfl rfl wf_X9_12 dX9_pass_53 ?_
        obtain ⟨r13, M14, hc15, hf⟩ := zbnd_some hf
        refine R_callVi X (av := []) (rest := [.int (zI v2)]) (c_X7_passDay l D cas ad hi lc_1 hc15) zy_X7_passDay lc_1 rfl rfl wm_X9_124 rfl rfl ⟨Nat.le_of_ble_eq_true rfl, Nat.le_of_ble_eq_true rfl⟩ ⟨Nat.le_refl _, Nat.le_refl _⟩ (Nat.le_of_ble_eq_true rfl) dX9_pass_56 ?_
        refine R_iadd X dX9_pass_59 ?_
        obtain ⟨x16, ex16, hf⟩ := zlt_some hf
        refine R_istore_nX X (lv' := [(2, .int (zI x16)), (0, .ref (ad 0)), (1, .int (zI v1)), (3, .int (zI v3))]) ex16 dX9_pass_60 rfl (by decide) rfl ?_
        refine R_iinc X (lv' := [(3, .int (zI (v3 + 1))), (2, .int (zI x16)), (0, .ref (ad 0)), (1, .int (zI v1))]) 3 dX9_pass_61 rfl (by decide) rfl ?_
        refine R_goto X 46 dX9_pass_64 (by decide) ?_
        exact R_sub [2, 3, 1, 0] rfl (ih v1 x16 (v3 + 1) M14 hf)
  unfold f_X9_pass at hf
  refine (?_ : WW p l e (zrm 6 132) s m args below meth c D cas ad (zA ad) 4 0 0 (MQ below (zQi D cas ad r M') args s 0 0 (zA ad)) 0 [(0, .ref (ad 0)), (1, .int (zI v1))] [] M)
  refine R_iload_n X 1 dX9_pass_0 rfl rfl ?_
  refine R_iconst X dX9_pass_1 ?_
  refine R_bipush X dX9_pass_2 (by decide +kernel) ?_
  obtain ⟨r1, M2, hc3, hf⟩ := zbnd_some hf
  refine R_callSi X (av := [.int (zI v1), .int (zI 1), .int (zI 60)]) (rest := []) (c_X9_isWithin l D cas ad hi hc3) zy_X9_isWithin wm_X9_43 rfl rfl ⟨Nat.le_of_ble_eq_true rfl, Nat.le_of_ble_eq_true rfl⟩ ⟨Nat.le_refl _, Nat.le_refl _⟩ (Nat.le_of_ble_eq_true rfl) dX9_pass_4 ?_
  obtain ⟨hq4, hf⟩ := zgrd hf
  refine R_if_ne X 13 hq4 dX9_pass_7 (by decide) (fun c10 => ?_) (fun c10 => ?_)
  · have hf := zelse hf c10
    refine R_aload_n X 0 dX9_pass_13 rfl rfl ?_
    refine R_getR X (j := 0) 1 1 lc_0 rfl inX9 (by decide) rfl rfl (by decide) rfl rfl wf_X9_12 dX9_pass_14 ?_
    refine R_getI X (j := 0) lc_1 rfl inX7 (by decide) rfl rfl rfl wf_X9_121 dX9_pass_17 ?_
    refine R_iload_n X 1 dX9_pass_20 rfl rfl ?_
    refine R_iadd X dX9_pass_21 ?_
    refine R_sipush X dX9_pass_22 (by decide +kernel) ?_
    obtain ⟨hq5, hf⟩ := zgrd hf
    refine R_icmp_le X 31 ⟨hq5, (by decide)⟩ dX9_pass_25 (by decide) (fun c9 => ?_) (fun c9 => ?_)
    · have hf := zthen hf c9
      refine R_aload_n X 0 dX9_pass_31 rfl rfl ?_
      refine R_getR X (j := 3) 88 88 lc_0 rfl inX9 (by decide) rfl rfl (by decide) rfl rfl wf_X9_25 dX9_pass_32 ?_
      refine R_aload_n X 0 dX9_pass_35 rfl rfl ?_
      refine R_getR X (j := 0) 1 1 lc_0 rfl inX9 (by decide) rfl rfl (by decide) rfl rfl wf_X9_12 dX9_pass_36 ?_
      obtain ⟨r6, M7, hc8, hf⟩ := zbnd_some hf
      refine R_callVv X (av := [.ref (ad 1)]) (rest := []) (c_X1_store l D cas ad hi lc_1 hc8) zy_X1_store lc_88 rfl rfl wm_X9_57 rfl rfl ⟨Nat.le_of_ble_eq_true rfl, Nat.le_of_ble_eq_true rfl⟩ ⟨Nat.le_refl _, Nat.le_refl _⟩ (Nat.le_of_ble_eq_true rfl) dX9_pass_39 ?_
      refine R_iconst X dX9_pass_42 ?_
      refine R_istore_n X (lv' := [(2, .int (zI 0)), (0, .ref (ad 0)), (1, .int (zI v1))]) dX9_pass_43 rfl (by decide) rfl ?_
      refine R_iconst X dX9_pass_44 ?_
      refine R_istore_n X (lv' := [(3, .int (zI 0)), (2, .int (zI 0)), (0, .ref (ad 0)), (1, .int (zI v1))]) dX9_pass_45 rfl (by decide) rfl ?_
      exact R_sub [2, 3, 1, 0] rfl (hB46 100000 v1 0 0 M7 hf)
    · have hf := zelse hf c9
      refine R_bipush X dX9_pass_28 (by decide +kernel) ?_
      exact R_iret X hr hk0 dX9_pass_30 hf
  · have hf := zthen hf c10
    refine R_bipush X dX9_pass_10 (by decide +kernel) ?_
    exact R_iret X hr hk0 dX9_pass_12 hf
theorem dX0_heatIn_0 : decode cX0_heatIn 0 = .ok (.iconst 0, 1) := by decide +kernel
theorem dX0_heatIn_1 : decode cX0_heatIn 1 = .ok (.istore_n 2, 1) := by decide +kernel
theorem dX0_heatIn_2 : decode cX0_heatIn 2 = .ok (.iconst 0, 1) := by decide +kernel
theorem dX0_heatIn_3 : decode cX0_heatIn 3 = .ok (.istore_n 3, 1) := by decide +kernel
theorem dX0_heatIn_4 : decode cX0_heatIn 4 = .ok (.iload_n 3, 1) := by decide +kernel
theorem dX0_heatIn_5 : decode cX0_heatIn 5 = .ok (.bipush 16, 2) := by decide +kernel
theorem dX0_heatIn_7 : decode cX0_heatIn 7 = .ok (.if_icmp .ge 28, 3) := by decide +kernel
theorem dX0_heatIn_10 : decode cX0_heatIn 10 = .ok (.aload_n 0, 1) := by decide +kernel
theorem dX0_heatIn_11 : decode cX0_heatIn 11 = .ok (.getfield 9, 3) := by decide +kernel
theorem dX0_heatIn_14 : decode cX0_heatIn 14 = .ok (.iload_n 3, 1) := by decide +kernel
theorem dX0_heatIn_15 : decode cX0_heatIn 15 = .ok (.iaload, 1) := by decide +kernel
theorem dX0_heatIn_16 : decode cX0_heatIn 16 = .ok (.iload_n 1, 1) := by decide +kernel
theorem dX0_heatIn_17 : decode cX0_heatIn 17 = .ok (.if_icmp .ne 12, 3) := by decide +kernel
theorem dX0_heatIn_20 : decode cX0_heatIn 20 = .ok (.iload_n 2, 1) := by decide +kernel
theorem dX0_heatIn_21 : decode cX0_heatIn 21 = .ok (.aload_n 0, 1) := by decide +kernel
theorem dX0_heatIn_22 : decode cX0_heatIn 22 = .ok (.getfield 15, 3) := by decide +kernel
theorem dX0_heatIn_25 : decode cX0_heatIn 25 = .ok (.iload_n 3, 1) := by decide +kernel
theorem dX0_heatIn_26 : decode cX0_heatIn 26 = .ok (.iaload, 1) := by decide +kernel
theorem dX0_heatIn_27 : decode cX0_heatIn 27 = .ok (.iadd, 1) := by decide +kernel
theorem dX0_heatIn_28 : decode cX0_heatIn 28 = .ok (.istore_n 2, 1) := by decide +kernel
theorem dX0_heatIn_29 : decode cX0_heatIn 29 = .ok (.iinc 3 1, 3) := by decide +kernel
theorem dX0_heatIn_32 : decode cX0_heatIn 32 = .ok (.goto (-28), 3) := by decide +kernel
theorem dX0_heatIn_35 : decode cX0_heatIn 35 = .ok (.iload_n 2, 1) := by decide +kernel
theorem dX0_heatIn_36 : decode cX0_heatIn 36 = .ok (.ireturn, 1) := by decide +kernel
set_option maxRecDepth 100000 in
set_option maxHeartbeats 4000000 in
theorem c_X0_heatIn (l : Launch) (D : va_G) (cas : Nat → ClassId) (ad : Nat → Nat) (hi : zInj ad) {k : Nat} {v1 : Int} (hk : k < zN ∧ lay k = (0, 0)) {r : Int} {M M' : Mem} (hf : f_X0_heatIn k v1 M = some (r, M')) : zMi l D cas ad yX0_heatIn cX0_heatIn 4 (some .int) 0 0 [.ref (ad k), .int (zI v1)] M r M' := by
  refine zbody (by decide) (Nat.le_of_ble_eq_true rfl) hi ?_
  intro p e s m args below meth c X hr hk0
  have X : zX p s m args c cX0_heatIn "ShardTrails$Herd" 4 D cas ad (zA ad) := X
  have hB29 : ∀ (g4 : Int → Int → Int → Mem → Option (Int × Mem)) (hg4 : ∀ (v1 v2 v3 : Int) (M : Mem), g4 v1 v2 v3 M = some (r, M') → WW p l e (zrm 0 0) s m args below meth c D cas ad (zA ad) 4 0 0 (MQ below (zQi D cas ad r M') args s 0 0 (zA ad)) 4 [(0, .ref (ad k)), (1, .int (zI v1)), (2, .int (zI v2)), (3, .int (zI v3))] [] M) (v1 v2 v3 : Int) (M : Mem), f_X0_heatIn_b29 g4 k v1 v2 v3 M = some (r, M') → WW p l e (zrm 0 0) s m args below meth c D cas ad (zA ad) 4 0 0 (MQ below (zQi D cas ad r M') args s 0 0 (zA ad)) 29 [(0, .ref (ad k)), (1, .int (zI v1)), (2, .int (zI v2)), (3, .int (zI v3))] [] M := by
    intro g4 hg4 v1 v2 v3 M hf
    unfold f_X0_heatIn_b29 at hf
    refine R_iinc X (lv' := [(3, .int (zI (v3 + 1))), (0, .ref (ad k)), (1, .int (zI v1)), (2, .int (zI v2))]) 3 dX0_heatIn_29 rfl (by decide) rfl ?_
    refine R_goto X 4 dX0_heatIn_32 (by decide) ?_
    exact R_sub [1, 2, 3, 0] rfl (hg4 v1 v2 (v3 + 1) M hf)
  have hB4 : ∀ (n : Nat) (v1 v2 v3 : Int) (M : Mem), f_X0_heatIn_b4 k n v1 v2 v3 M = some (r, M') → WW p l e (zrm 0 0) s m args below meth c D cas ad (zA ad) 4 0 0 (MQ below (zQi D cas ad r M') args s 0 0 (zA ad)) 4 [(0, .ref (ad k)), (1, .int (zI v1)), (2, .int (zI v2)), (3, .int (zI v3))] [] M := by
    intro n
    induction n with
    | zero => intro v1 v2 v3 M hf; exact absurd hf (by unfold f_X0_heatIn_b4; simp)
    | succ n ih =>
      intro v1 v2 v3 M hf
      unfold f_X0_heatIn_b4 at hf
      refine R_iload_n X 3 dX0_heatIn_4 rfl rfl ?_
      refine R_bipush X dX0_heatIn_5 (by decide +kernel) ?_
      obtain ⟨hq1, hf⟩ := zgrd hf
      refine R_icmp_ge X 35 ⟨hq1, (by decide)⟩ dX0_heatIn_7 (by decide) (fun c9 => ?_) (fun c9 => ?_)
      · have hf := zthen hf c9
        refine R_iload_n X 2 dX0_heatIn_35 rfl rfl ?_
        exact R_iret X hr hk0 dX0_heatIn_36 hf
      · have hf := zelse hf c9
        refine R_aload_n X 0 dX0_heatIn_10 rfl rfl ?_
        have hp2 : k + 1 < zN ∧ lay (k + 1) = (1, 16) := pt_0_0 _ hk.1 hk.2
        refine R_getR X (j := 0) 1 (k + 1) hk rfl inX0 (by decide) rfl rfl (by decide) rfl rfl wf_X0_9 dX0_heatIn_11 ?_
        refine R_iload_n X 3 dX0_heatIn_14 rfl rfl ?_
        obtain ⟨hq3, hf⟩ := zgrd hf
        refine R_iald X hp2 hq3 dX0_heatIn_15 ?_
        refine R_iload_n X 1 dX0_heatIn_16 rfl rfl ?_
        obtain ⟨hq4, hf⟩ := zgrd hf
        obtain ⟨hq5, hf⟩ := zgrd hf
        refine R_icmp_ne X 29 ⟨hq4, hq5⟩ dX0_heatIn_17 (by decide) (fun c8 => ?_) (fun c8 => ?_)
        · have hf := zelse hf c8
          exact R_sub [0, 1, 2, 3] rfl (hB29 (f_X0_heatIn_b4 k n) ih v1 v2 v3 M hf)
        · have hf := zthen hf c8
          refine R_iload_n X 2 dX0_heatIn_20 rfl rfl ?_
          refine R_aload_n X 0 dX0_heatIn_21 rfl rfl ?_
          have hp6 : k + 2 < zN ∧ lay (k + 2) = (1, 16) := pt_0_1 _ hk.1 hk.2
          refine R_getR X (j := 1) 2 (k + 2) hk rfl inX0 (by decide) rfl rfl (by decide) rfl rfl wf_X0_15 dX0_heatIn_22 ?_
          refine R_iload_n X 3 dX0_heatIn_25 rfl rfl ?_
          refine R_iald X hp6 hq3 dX0_heatIn_26 ?_
          refine R_iadd X dX0_heatIn_27 ?_
          obtain ⟨x7, ex7, hf⟩ := zlt_some hf
          refine R_istore_nX X (lv' := [(2, .int (zI x7)), (0, .ref (ad k)), (1, .int (zI v1)), (3, .int (zI v3))]) ex7 dX0_heatIn_28 rfl (by decide) rfl ?_
          exact R_sub [1, 2, 0, 3] rfl (hB29 (f_X0_heatIn_b4 k n) ih v1 x7 v3 M hf)
  unfold f_X0_heatIn at hf
  refine (?_ : WW p l e (zrm 0 0) s m args below meth c D cas ad (zA ad) 4 0 0 (MQ below (zQi D cas ad r M') args s 0 0 (zA ad)) 0 [(0, .ref (ad k)), (1, .int (zI v1))] [] M)
  refine R_iconst X dX0_heatIn_0 ?_
  refine R_istore_n X (lv' := [(2, .int (zI 0)), (0, .ref (ad k)), (1, .int (zI v1))]) dX0_heatIn_1 rfl (by decide) rfl ?_
  refine R_iconst X dX0_heatIn_2 ?_
  refine R_istore_n X (lv' := [(3, .int (zI 0)), (2, .int (zI 0)), (0, .ref (ad k)), (1, .int (zI v1))]) dX0_heatIn_3 rfl (by decide) rfl ?_
  exact R_sub [2, 3, 1, 0] rfl (hB4 100000 v1 0 0 M hf)
theorem dX3_countIn_0 : decode cX3_countIn 0 = .ok (.iconst 0, 1) := by decide +kernel
theorem dX3_countIn_1 : decode cX3_countIn 1 = .ok (.istore_n 2, 1) := by decide +kernel
theorem dX3_countIn_2 : decode cX3_countIn 2 = .ok (.iconst 0, 1) := by decide +kernel
theorem dX3_countIn_3 : decode cX3_countIn 3 = .ok (.istore_n 3, 1) := by decide +kernel
theorem dX3_countIn_4 : decode cX3_countIn 4 = .ok (.iload_n 3, 1) := by decide +kernel
theorem dX3_countIn_5 : decode cX3_countIn 5 = .ok (.aload_n 0, 1) := by decide +kernel
theorem dX3_countIn_6 : decode cX3_countIn 6 = .ok (.getfield 18, 3) := by decide +kernel
theorem dX3_countIn_9 : decode cX3_countIn 9 = .ok (.if_icmp .ge 22, 3) := by decide +kernel
theorem dX3_countIn_12 : decode cX3_countIn 12 = .ok (.aload_n 0, 1) := by decide +kernel
theorem dX3_countIn_13 : decode cX3_countIn 13 = .ok (.getfield 9, 3) := by decide +kernel
theorem dX3_countIn_16 : decode cX3_countIn 16 = .ok (.iload_n 3, 1) := by decide +kernel
theorem dX3_countIn_17 : decode cX3_countIn 17 = .ok (.iaload, 1) := by decide +kernel
theorem dX3_countIn_18 : decode cX3_countIn 18 = .ok (.iload_n 1, 1) := by decide +kernel
theorem dX3_countIn_19 : decode cX3_countIn 19 = .ok (.if_icmp .ne 6, 3) := by decide +kernel
theorem dX3_countIn_22 : decode cX3_countIn 22 = .ok (.iinc 2 1, 3) := by decide +kernel
theorem dX3_countIn_25 : decode cX3_countIn 25 = .ok (.iinc 3 1, 3) := by decide +kernel
theorem dX3_countIn_28 : decode cX3_countIn 28 = .ok (.goto (-24), 3) := by decide +kernel
theorem dX3_countIn_31 : decode cX3_countIn 31 = .ok (.iload_n 2, 1) := by decide +kernel
theorem dX3_countIn_32 : decode cX3_countIn 32 = .ok (.ireturn, 1) := by decide +kernel
set_option maxRecDepth 100000 in
set_option maxHeartbeats 4000000 in
theorem c_X3_countIn (l : Launch) (D : va_G) (cas : Nat → ClassId) (ad : Nat → Nat) (hi : zInj ad) {k : Nat} {v1 : Int} (hk : k < zN ∧ lay k = (0, 3)) {r : Int} {M M' : Mem} (hf : f_X3_countIn k v1 M = some (r, M')) : zMi l D cas ad yX3_countIn cX3_countIn 4 (some .int) 0 0 [.ref (ad k), .int (zI v1)] M r M' := by
  refine zbody (by decide) (Nat.le_of_ble_eq_true rfl) hi ?_
  intro p e s m args below meth c X hr hk0
  have X : zX p s m args c cX3_countIn "ShardTrails$Pack" 4 D cas ad (zA ad) := X
  have hB25 : ∀ (g4 : Int → Int → Int → Mem → Option (Int × Mem)) (hg4 : ∀ (v1 v2 v3 : Int) (M : Mem), g4 v1 v2 v3 M = some (r, M') → WW p l e (zrm 0 0) s m args below meth c D cas ad (zA ad) 4 0 0 (MQ below (zQi D cas ad r M') args s 0 0 (zA ad)) 4 [(0, .ref (ad k)), (1, .int (zI v1)), (2, .int (zI v2)), (3, .int (zI v3))] [] M) (v1 v2 v3 : Int) (M : Mem), f_X3_countIn_b25 g4 k v1 v2 v3 M = some (r, M') → WW p l e (zrm 0 0) s m args below meth c D cas ad (zA ad) 4 0 0 (MQ below (zQi D cas ad r M') args s 0 0 (zA ad)) 25 [(0, .ref (ad k)), (1, .int (zI v1)), (2, .int (zI v2)), (3, .int (zI v3))] [] M := by
    intro g4 hg4 v1 v2 v3 M hf
    unfold f_X3_countIn_b25 at hf
    refine R_iinc X (lv' := [(3, .int (zI (v3 + 1))), (0, .ref (ad k)), (1, .int (zI v1)), (2, .int (zI v2))]) 3 dX3_countIn_25 rfl (by decide) rfl ?_
    refine R_goto X 4 dX3_countIn_28 (by decide) ?_
    exact R_sub [1, 2, 3, 0] rfl (hg4 v1 v2 (v3 + 1) M hf)
  have hB4 : ∀ (n : Nat) (v1 v2 v3 : Int) (M : Mem), f_X3_countIn_b4 k n v1 v2 v3 M = some (r, M') → WW p l e (zrm 0 0) s m args below meth c D cas ad (zA ad) 4 0 0 (MQ below (zQi D cas ad r M') args s 0 0 (zA ad)) 4 [(0, .ref (ad k)), (1, .int (zI v1)), (2, .int (zI v2)), (3, .int (zI v3))] [] M := by
    intro n
    induction n with
    | zero => intro v1 v2 v3 M hf; exact absurd hf (by unfold f_X3_countIn_b4; simp)
    | succ n ih =>
      intro v1 v2 v3 M hf
      unfold f_X3_countIn_b4 at hf
      refine R_iload_n X 3 dX3_countIn_4 rfl rfl ?_
      refine R_aload_n X 0 dX3_countIn_5 rfl rfl ?_
      refine R_getI X (j := 0) hk rfl inX3 (by decide) rfl rfl rfl wf_X3_18 dX3_countIn_6 ?_
      obtain ⟨hq1, hf⟩ := zgrd hf
      obtain ⟨hq2, hf⟩ := zgrd hf
      refine R_icmp_ge X 31 ⟨hq1, hq2⟩ dX3_countIn_9 (by decide) (fun c8 => ?_) (fun c8 => ?_)
      · have hf := zthen hf c8
        refine R_iload_n X 2 dX3_countIn_31 rfl rfl ?_
        exact R_iret X hr hk0 dX3_countIn_32 hf
      · have hf := zelse hf c8
        refine R_aload_n X 0 dX3_countIn_12 rfl rfl ?_
        have hp3 : k + 1 < zN ∧ lay (k + 1) = (1, 3) := pt_3_1 _ hk.1 hk.2
        refine R_getR X (j := 1) 1 (k + 1) hk rfl inX3 (by decide) rfl rfl (by decide) rfl rfl wf_X3_9 dX3_countIn_13 ?_
        refine R_iload_n X 3 dX3_countIn_16 rfl rfl ?_
        obtain ⟨hq4, hf⟩ := zgrd hf
        refine R_iald X hp3 hq4 dX3_countIn_17 ?_
        refine R_iload_n X 1 dX3_countIn_18 rfl rfl ?_
        obtain ⟨hq5, hf⟩ := zgrd hf
        obtain ⟨hq6, hf⟩ := zgrd hf
        refine R_icmp_ne X 25 ⟨hq5, hq6⟩ dX3_countIn_19 (by decide) (fun c7 => ?_) (fun c7 => ?_)
        · have hf := zelse hf c7
          exact R_sub [0, 1, 2, 3] rfl (hB25 (f_X3_countIn_b4 k n) ih v1 v2 v3 M hf)
        · have hf := zthen hf c7
          refine R_iinc X (lv' := [(2, .int (zI (v2 + 1))), (0, .ref (ad k)), (1, .int (zI v1)), (3, .int (zI v3))]) 2 dX3_countIn_22 rfl (by decide) rfl ?_
          exact R_sub [1, 2, 0, 3] rfl (hB25 (f_X3_countIn_b4 k n) ih v1 (v2 + 1) v3 M hf)
  unfold f_X3_countIn at hf
  refine (?_ : WW p l e (zrm 0 0) s m args below meth c D cas ad (zA ad) 4 0 0 (MQ below (zQi D cas ad r M') args s 0 0 (zA ad)) 0 [(0, .ref (ad k)), (1, .int (zI v1))] [] M)
  refine R_iconst X dX3_countIn_0 ?_
  refine R_istore_n X (lv' := [(2, .int (zI 0)), (0, .ref (ad k)), (1, .int (zI v1))]) dX3_countIn_1 rfl (by decide) rfl ?_
  refine R_iconst X dX3_countIn_2 ?_
  refine R_istore_n X (lv' := [(3, .int (zI 0)), (2, .int (zI 0)), (0, .ref (ad k)), (1, .int (zI v1))]) dX3_countIn_3 rfl (by decide) rfl ?_
  exact R_sub [2, 3, 1, 0] rfl (hB4 100000 v1 0 0 M hf)
theorem dX9_pasture_0 : decode cX9_pasture 0 = .ok (.aload_n 0, 1) := by decide +kernel
theorem dX9_pasture_1 : decode cX9_pasture 1 = .ok (.iload_n 1, 1) := by decide +kernel
theorem dX9_pasture_2 : decode cX9_pasture 2 = .ok (.invokevirtual 65, 3) := by decide +kernel
theorem dX9_pasture_5 : decode cX9_pasture 5 = .ok (.ifCond .ne 5, 3) := by decide +kernel
theorem dX9_pasture_8 : decode cX9_pasture 8 = .ok (.iconst (-1), 1) := by decide +kernel
theorem dX9_pasture_9 : decode cX9_pasture 9 = .ok (.ireturn, 1) := by decide +kernel
theorem dX9_pasture_10 : decode cX9_pasture 10 = .ok (.iload_n 2, 1) := by decide +kernel
theorem dX9_pasture_11 : decode cX9_pasture 11 = .ok (.tableswitch 177 0 8 #[49, 62, 75, 96, 109, 121, 140, 152, 164], 49) := by decide +kernel
theorem dX9_pasture_60 : decode cX9_pasture 60 = .ok (.aload_n 0, 1) := by decide +kernel
theorem dX9_pasture_61 : decode cX9_pasture 61 = .ok (.getfield 12, 3) := by decide +kernel
theorem dX9_pasture_64 : decode cX9_pasture 64 = .ok (.getfield 47, 3) := by decide +kernel
theorem dX9_pasture_67 : decode cX9_pasture 67 = .ok (.getfield 195, 3) := by decide +kernel
theorem dX9_pasture_70 : decode cX9_pasture 70 = .ok (.iload_n 1, 1) := by decide +kernel
theorem dX9_pasture_71 : decode cX9_pasture 71 = .ok (.iaload, 1) := by decide +kernel
theorem dX9_pasture_72 : decode cX9_pasture 72 = .ok (.ireturn, 1) := by decide +kernel
theorem dX9_pasture_73 : decode cX9_pasture 73 = .ok (.aload_n 0, 1) := by decide +kernel
theorem dX9_pasture_74 : decode cX9_pasture 74 = .ok (.getfield 12, 3) := by decide +kernel
theorem dX9_pasture_77 : decode cX9_pasture 77 = .ok (.getfield 47, 3) := by decide +kernel
theorem dX9_pasture_80 : decode cX9_pasture 80 = .ok (.getfield 73, 3) := by decide +kernel
theorem dX9_pasture_83 : decode cX9_pasture 83 = .ok (.iload_n 1, 1) := by decide +kernel
theorem dX9_pasture_84 : decode cX9_pasture 84 = .ok (.iaload, 1) := by decide +kernel
theorem dX9_pasture_85 : decode cX9_pasture 85 = .ok (.ireturn, 1) := by decide +kernel
theorem dX9_pasture_86 : decode cX9_pasture 86 = .ok (.aload_n 0, 1) := by decide +kernel
theorem dX9_pasture_87 : decode cX9_pasture 87 = .ok (.getfield 12, 3) := by decide +kernel
theorem dX9_pasture_90 : decode cX9_pasture 90 = .ok (.getfield 47, 3) := by decide +kernel
theorem dX9_pasture_93 : decode cX9_pasture 93 = .ok (.getfield 76, 3) := by decide +kernel
theorem dX9_pasture_96 : decode cX9_pasture 96 = .ok (.iload_n 1, 1) := by decide +kernel
theorem dX9_pasture_97 : decode cX9_pasture 97 = .ok (.baload, 1) := by decide +kernel
theorem dX9_pasture_98 : decode cX9_pasture 98 = .ok (.ifCond .eq 7, 3) := by decide +kernel
theorem dX9_pasture_101 : decode cX9_pasture 101 = .ok (.iconst 1, 1) := by decide +kernel
theorem dX9_pasture_102 : decode cX9_pasture 102 = .ok (.goto 4, 3) := by decide +kernel
theorem dX9_pasture_105 : decode cX9_pasture 105 = .ok (.iconst 0, 1) := by decide +kernel
theorem dX9_pasture_106 : decode cX9_pasture 106 = .ok (.ireturn, 1) := by decide +kernel
theorem dX9_pasture_107 : decode cX9_pasture 107 = .ok (.aload_n 0, 1) := by decide +kernel
theorem dX9_pasture_108 : decode cX9_pasture 108 = .ok (.getfield 12, 3) := by decide +kernel
theorem dX9_pasture_111 : decode cX9_pasture 111 = .ok (.getfield 47, 3) := by decide +kernel
theorem dX9_pasture_114 : decode cX9_pasture 114 = .ok (.getfield 69, 3) := by decide +kernel
theorem dX9_pasture_117 : decode cX9_pasture 117 = .ok (.iload_n 1, 1) := by decide +kernel
theorem dX9_pasture_118 : decode cX9_pasture 118 = .ok (.iaload, 1) := by decide +kernel
theorem dX9_pasture_119 : decode cX9_pasture 119 = .ok (.ireturn, 1) := by decide +kernel
theorem dX9_pasture_120 : decode cX9_pasture 120 = .ok (.aload_n 0, 1) := by decide +kernel
theorem dX9_pasture_121 : decode cX9_pasture 121 = .ok (.getfield 12, 3) := by decide +kernel
theorem dX9_pasture_124 : decode cX9_pasture 124 = .ok (.getfield 198, 3) := by decide +kernel
theorem dX9_pasture_127 : decode cX9_pasture 127 = .ok (.iload_n 1, 1) := by decide +kernel
theorem dX9_pasture_128 : decode cX9_pasture 128 = .ok (.invokevirtual 202, 3) := by decide +kernel
theorem dX9_pasture_131 : decode cX9_pasture 131 = .ok (.ireturn, 1) := by decide +kernel
theorem dX9_pasture_132 : decode cX9_pasture 132 = .ok (.aload_n 0, 1) := by decide +kernel
theorem dX9_pasture_133 : decode cX9_pasture 133 = .ok (.getfield 12, 3) := by decide +kernel
theorem dX9_pasture_136 : decode cX9_pasture 136 = .ok (.getfield 47, 3) := by decide +kernel
theorem dX9_pasture_139 : decode cX9_pasture 139 = .ok (.iload_n 1, 1) := by decide +kernel
theorem dX9_pasture_140 : decode cX9_pasture 140 = .ok (.aload_n 0, 1) := by decide +kernel
theorem dX9_pasture_141 : decode cX9_pasture 141 = .ok (.getfield 12, 3) := by decide +kernel
theorem dX9_pasture_144 : decode cX9_pasture 144 = .ok (.invokevirtual 207, 3) := by decide +kernel
theorem dX9_pasture_147 : decode cX9_pasture 147 = .ok (.invokevirtual 210, 3) := by decide +kernel
theorem dX9_pasture_150 : decode cX9_pasture 150 = .ok (.ireturn, 1) := by decide +kernel
theorem dX9_pasture_151 : decode cX9_pasture 151 = .ok (.aload_n 0, 1) := by decide +kernel
theorem dX9_pasture_152 : decode cX9_pasture 152 = .ok (.getfield 12, 3) := by decide +kernel
theorem dX9_pasture_155 : decode cX9_pasture 155 = .ok (.getfield 130, 3) := by decide +kernel
theorem dX9_pasture_158 : decode cX9_pasture 158 = .ok (.iload_n 1, 1) := by decide +kernel
theorem dX9_pasture_159 : decode cX9_pasture 159 = .ok (.invokevirtual 213, 3) := by decide +kernel
theorem dX9_pasture_162 : decode cX9_pasture 162 = .ok (.ireturn, 1) := by decide +kernel
theorem dX9_pasture_163 : decode cX9_pasture 163 = .ok (.aload_n 0, 1) := by decide +kernel
theorem dX9_pasture_164 : decode cX9_pasture 164 = .ok (.getfield 12, 3) := by decide +kernel
theorem dX9_pasture_167 : decode cX9_pasture 167 = .ok (.getfield 88, 3) := by decide +kernel
theorem dX9_pasture_170 : decode cX9_pasture 170 = .ok (.iload_n 1, 1) := by decide +kernel
theorem dX9_pasture_171 : decode cX9_pasture 171 = .ok (.invokevirtual 216, 3) := by decide +kernel
theorem dX9_pasture_174 : decode cX9_pasture 174 = .ok (.ireturn, 1) := by decide +kernel
theorem dX9_pasture_175 : decode cX9_pasture 175 = .ok (.aload_n 0, 1) := by decide +kernel
theorem dX9_pasture_176 : decode cX9_pasture 176 = .ok (.getfield 12, 3) := by decide +kernel
theorem dX9_pasture_179 : decode cX9_pasture 179 = .ok (.getfield 47, 3) := by decide +kernel
theorem dX9_pasture_182 : decode cX9_pasture 182 = .ok (.getfield 217, 3) := by decide +kernel
theorem dX9_pasture_185 : decode cX9_pasture 185 = .ok (.iload_n 1, 1) := by decide +kernel
theorem dX9_pasture_186 : decode cX9_pasture 186 = .ok (.iaload, 1) := by decide +kernel
theorem dX9_pasture_187 : decode cX9_pasture 187 = .ok (.ireturn, 1) := by decide +kernel
theorem dX9_pasture_188 : decode cX9_pasture 188 = .ok (.bipush (-2), 2) := by decide +kernel
theorem dX9_pasture_190 : decode cX9_pasture 190 = .ok (.ireturn, 1) := by decide +kernel
set_option maxRecDepth 100000 in
set_option maxHeartbeats 4000000 in
theorem c_X9_pasture (l : Launch) (D : va_G) (cas : Nat → ClassId) (ad : Nat → Nat) (hi : zInj ad) {v1 : Int} {v2 : Int}  {r : Int} {M M' : Mem} (hf : f_X9_pasture v1 v2 M = some (r, M')) : zMi l D cas ad yX9_pasture cX9_pasture 3 (some .int) 3 66 [.ref (ad 0), .int (zI v1), .int (zI v2)] M r M' := by
  refine zbody (by decide) (Nat.le_of_ble_eq_true rfl) hi ?_
  intro p e s m args below meth c X hr hk0
  have X : zX p s m args c cX9_pasture "ShardTrails" 3 D cas ad (zA ad) := X
  have hB106 : ∀ (t1 : Int) (M : Mem), f_X9_pasture_b106 t1 M = some (r, M') → WW p l e (zrm 3 66) s m args below meth c D cas ad (zA ad) 3 0 0 (MQ below (zQi D cas ad r M') args s 0 0 (zA ad)) 106 [] [.int (zI t1)] M := by
    intro t1 M hf
    unfold f_X9_pasture_b106 at hf
    exact R_iret X hr hk0 dX9_pasture_106 hf
  unfold f_X9_pasture at hf
  refine (?_ : WW p l e (zrm 3 66) s m args below meth c D cas ad (zA ad) 3 0 0 (MQ below (zQi D cas ad r M') args s 0 0 (zA ad)) 0 [(0, .ref (ad 0)), (1, .int (zI v1)), (2, .int (zI v2))] [] M)
  refine R_aload_n X 0 dX9_pasture_0 rfl rfl ?_
  refine R_iload_n X 1 dX9_pasture_1 rfl rfl ?_
  obtain ⟨r1, M2, hc3, hf⟩ := zbnd_some hf
  refine R_callVi X (av := [.int (zI v1)]) (rest := []) (c_X9_isPasture l D cas ad hi hc3) zy_X9_isPasture lc_0 rfl rfl wm_X9_65 rfl rfl ⟨Nat.le_of_ble_eq_true rfl, Nat.le_of_ble_eq_true rfl⟩ ⟨Nat.le_refl _, Nat.le_refl _⟩ (Nat.le_of_ble_eq_true rfl) dX9_pasture_2 ?_
  obtain ⟨hq4, hf⟩ := zgrd hf
  refine R_if_ne X 10 hq4 dX9_pasture_5 (by decide) (fun c37 => ?_) (fun c37 => ?_)
  · have hf := zelse hf c37
    refine R_iload_n X 2 dX9_pasture_10 rfl rfl ?_
    obtain ⟨hq5, hf⟩ := zgrd hf
    by_cases c7 : v2 = 0
    · have hf := zthen hf c7
      refine R_tableIn X (o := 49) 60 c7 dX9_pasture_11 (by decide) (by decide) (by decide) (by decide +kernel) (by decide) ?_
      refine R_aload_n X 0 dX9_pasture_60 rfl rfl ?_
      refine R_getR X (j := 0) 1 1 lc_0 rfl inX9 (by decide) rfl rfl (by decide) rfl rfl wf_X9_12 dX9_pasture_61 ?_
      refine R_getR X (j := 5) 3 4 lc_1 rfl inX7 (by decide) rfl rfl (by decide) rfl rfl wf_X9_47 dX9_pasture_64 ?_
      refine R_getR X (j := 1) 1 5 lc_4 rfl inX2 (by decide) rfl rfl (by decide) rfl rfl wf_X9_195 dX9_pasture_67 ?_
      refine R_iload_n X 1 dX9_pasture_70 rfl rfl ?_
      obtain ⟨hq6, hf⟩ := zgrd hf
      refine R_iald X lc_5 hq6 dX9_pasture_71 ?_
      exact R_iret X hr hk0 dX9_pasture_72 hf
    have hf := zelse hf c7
    by_cases c9 : v2 = 1
    · have hf := zthen hf c9
      refine R_tableIn X (o := 62) 73 c9 dX9_pasture_11 (by decide) (by decide) (by decide) (by decide +kernel) (by decide) ?_
      refine R_aload_n X 0 dX9_pasture_73 rfl rfl ?_
      refine R_getR X (j := 0) 1 1 lc_0 rfl inX9 (by decide) rfl rfl (by decide) rfl rfl wf_X9_12 dX9_pasture_74 ?_
      refine R_getR X (j := 5) 3 4 lc_1 rfl inX7 (by decide) rfl rfl (by decide) rfl rfl wf_X9_47 dX9_pasture_77 ?_
      refine R_getR X (j := 2) 2 6 lc_4 rfl inX2 (by decide) rfl rfl (by decide) rfl rfl wf_X9_73 dX9_pasture_80 ?_
      refine R_iload_n X 1 dX9_pasture_83 rfl rfl ?_
      obtain ⟨hq8, hf⟩ := zgrd hf
      refine R_iald X lc_6 hq8 dX9_pasture_84 ?_
      exact R_iret X hr hk0 dX9_pasture_85 hf
    have hf := zelse hf c9
    by_cases c13 : v2 = 2
    · have hf := zthen hf c13
      refine R_tableIn X (o := 75) 86 c13 dX9_pasture_11 (by decide) (by decide) (by decide) (by decide +kernel) (by decide) ?_
      refine R_aload_n X 0 dX9_pasture_86 rfl rfl ?_
      refine R_getR X (j := 0) 1 1 lc_0 rfl inX9 (by decide) rfl rfl (by decide) rfl rfl wf_X9_12 dX9_pasture_87 ?_
      refine R_getR X (j := 5) 3 4 lc_1 rfl inX7 (by decide) rfl rfl (by decide) rfl rfl wf_X9_47 dX9_pasture_90 ?_
      refine R_getR X (j := 5) 5 9 lc_4 rfl inX2 (by decide) rfl rfl (by decide) rfl rfl wf_X9_76 dX9_pasture_93 ?_
      refine R_iload_n X 1 dX9_pasture_96 rfl rfl ?_
      obtain ⟨hq10, hf⟩ := zgrd hf
      refine R_zald X lc_9 hq10 dX9_pasture_97 ?_
      obtain ⟨hq11, hf⟩ := zgrd hf
      refine R_if_eq X 105 hq11 dX9_pasture_98 (by decide) (fun c12 => ?_) (fun c12 => ?_)
      · have hf := zthen hf c12
        refine R_iconst X dX9_pasture_105 ?_
        exact R_sub [] rfl (hB106 0 M2 hf)
      · have hf := zelse hf c12
        refine R_iconst X dX9_pasture_101 ?_
        refine R_goto X 106 dX9_pasture_102 (by decide) ?_
        exact R_sub [] rfl (hB106 1 M2 hf)
    have hf := zelse hf c13
    by_cases c15 : v2 = 3
    · have hf := zthen hf c15
      refine R_tableIn X (o := 96) 107 c15 dX9_pasture_11 (by decide) (by decide) (by decide) (by decide +kernel) (by decide) ?_
      refine R_aload_n X 0 dX9_pasture_107 rfl rfl ?_
      refine R_getR X (j := 0) 1 1 lc_0 rfl inX9 (by decide) rfl rfl (by decide) rfl rfl wf_X9_12 dX9_pasture_108 ?_
      refine R_getR X (j := 5) 3 4 lc_1 rfl inX7 (by decide) rfl rfl (by decide) rfl rfl wf_X9_47 dX9_pasture_111 ?_
      refine R_getR X (j := 3) 3 7 lc_4 rfl inX2 (by decide) rfl rfl (by decide) rfl rfl wf_X9_69 dX9_pasture_114 ?_
      refine R_iload_n X 1 dX9_pasture_117 rfl rfl ?_
      obtain ⟨hq14, hf⟩ := zgrd hf
      refine R_iald X lc_7 hq14 dX9_pasture_118 ?_
      exact R_iret X hr hk0 dX9_pasture_119 hf
    have hf := zelse hf c15
    by_cases c19 : v2 = 4
    · have hf := zthen hf c19
      refine R_tableIn X (o := 109) 120 c19 dX9_pasture_11 (by decide) (by decide) (by decide) (by decide +kernel) (by decide) ?_
      refine R_aload_n X 0 dX9_pasture_120 rfl rfl ?_
      refine R_getR X (j := 0) 1 1 lc_0 rfl inX9 (by decide) rfl rfl (by decide) rfl rfl wf_X9_12 dX9_pasture_121 ?_
      refine R_getR X (j := 6) 10 11 lc_1 rfl inX7 (by decide) rfl rfl (by decide) rfl rfl wf_X9_198 dX9_pasture_124 ?_
      refine R_iload_n X 1 dX9_pasture_127 rfl rfl ?_
      obtain ⟨r16, M17, hc18, hf⟩ := zbnd_some hf
      refine R_callVi X (av := [.int (zI v1)]) (rest := []) (c_X8_countIn l D cas ad hi lc_11 hc18) zy_X8_countIn lc_11 rfl rfl wm_X9_202 rfl rfl ⟨Nat.le_of_ble_eq_true rfl, Nat.le_of_ble_eq_true rfl⟩ ⟨Nat.le_refl _, Nat.le_refl _⟩ (Nat.le_of_ble_eq_true rfl) dX9_pasture_128 ?_
      exact R_iret X hr hk0 dX9_pasture_131 hf
    have hf := zelse hf c19
    by_cases c26 : v2 = 5
    · have hf := zthen hf c26
      refine R_tableIn X (o := 121) 132 c26 dX9_pasture_11 (by decide) (by decide) (by decide) (by decide +kernel) (by decide) ?_
      refine R_aload_n X 0 dX9_pasture_132 rfl rfl ?_
      refine R_getR X (j := 0) 1 1 lc_0 rfl inX9 (by decide) rfl rfl (by decide) rfl rfl wf_X9_12 dX9_pasture_133 ?_
      refine R_getR X (j := 5) 3 4 lc_1 rfl inX7 (by decide) rfl rfl (by decide) rfl rfl wf_X9_47 dX9_pasture_136 ?_
      refine R_iload_n X 1 dX9_pasture_139 rfl rfl ?_
      refine R_aload_n X 0 dX9_pasture_140 rfl rfl ?_
      refine R_getR X (j := 0) 1 1 lc_0 rfl inX9 (by decide) rfl rfl (by decide) rfl rfl wf_X9_12 dX9_pasture_141 ?_
      obtain ⟨r20, M21, hc22, hf⟩ := zbnd_some hf
      refine R_callVi X (av := []) (rest := [.int (zI v1), .ref (ad 4)]) (c_X7_seasonLatitude l D cas ad hi lc_1 hc22) zy_X7_seasonLatitude lc_1 rfl rfl wm_X9_207 rfl rfl ⟨Nat.le_of_ble_eq_true rfl, Nat.le_of_ble_eq_true rfl⟩ ⟨Nat.le_refl _, Nat.le_refl _⟩ (Nat.le_of_ble_eq_true rfl) dX9_pasture_144 ?_
      obtain ⟨r23, M24, hc25, hf⟩ := zbnd_some hf
      refine R_callVi X (av := [.int (zI v1), .int (zI r20)]) (rest := []) (c_X2_distance l D cas ad hi lc_4 hc25) zy_X2_distance lc_4 rfl rfl wm_X9_210 rfl rfl ⟨Nat.le_of_ble_eq_true rfl, Nat.le_of_ble_eq_true rfl⟩ ⟨Nat.le_refl _, Nat.le_refl _⟩ (Nat.le_of_ble_eq_true rfl) dX9_pasture_147 ?_
      exact R_iret X hr hk0 dX9_pasture_150 hf
    have hf := zelse hf c26
    by_cases c30 : v2 = 6
    · have hf := zthen hf c30
      refine R_tableIn X (o := 140) 151 c30 dX9_pasture_11 (by decide) (by decide) (by decide) (by decide +kernel) (by decide) ?_
      refine R_aload_n X 0 dX9_pasture_151 rfl rfl ?_
      refine R_getR X (j := 0) 1 1 lc_0 rfl inX9 (by decide) rfl rfl (by decide) rfl rfl wf_X9_12 dX9_pasture_152 ?_
      refine R_getR X (j := 7) 13 14 lc_1 rfl inX7 (by decide) rfl rfl (by decide) rfl rfl wf_X9_130 dX9_pasture_155 ?_
      refine R_iload_n X 1 dX9_pasture_158 rfl rfl ?_
      obtain ⟨r27, M28, hc29, hf⟩ := zbnd_some hf
      refine R_callVi X (av := [.int (zI v1)]) (rest := []) (c_X0_heatIn l D cas ad hi lc_14 hc29) zy_X0_heatIn lc_14 rfl rfl wm_X9_213 rfl rfl ⟨Nat.le_of_ble_eq_true rfl, Nat.le_of_ble_eq_true rfl⟩ ⟨Nat.le_refl _, Nat.le_refl _⟩ (Nat.le_of_ble_eq_true rfl) dX9_pasture_159 ?_
      exact R_iret X hr hk0 dX9_pasture_162 hf
    have hf := zelse hf c30
    by_cases c34 : v2 = 7
    · have hf := zthen hf c34
      refine R_tableIn X (o := 152) 163 c34 dX9_pasture_11 (by decide) (by decide) (by decide) (by decide +kernel) (by decide) ?_
      refine R_aload_n X 0 dX9_pasture_163 rfl rfl ?_
      refine R_getR X (j := 0) 1 1 lc_0 rfl inX9 (by decide) rfl rfl (by decide) rfl rfl wf_X9_12 dX9_pasture_164 ?_
      refine R_getR X (j := 8) 18 19 lc_1 rfl inX7 (by decide) rfl rfl (by decide) rfl rfl wf_X9_88 dX9_pasture_167 ?_
      refine R_iload_n X 1 dX9_pasture_170 rfl rfl ?_
      obtain ⟨r31, M32, hc33, hf⟩ := zbnd_some hf
      refine R_callVi X (av := [.int (zI v1)]) (rest := []) (c_X3_countIn l D cas ad hi lc_19 hc33) zy_X3_countIn lc_19 rfl rfl wm_X9_216 rfl rfl ⟨Nat.le_of_ble_eq_true rfl, Nat.le_of_ble_eq_true rfl⟩ ⟨Nat.le_refl _, Nat.le_refl _⟩ (Nat.le_of_ble_eq_true rfl) dX9_pasture_171 ?_
      exact R_iret X hr hk0 dX9_pasture_174 hf
    have hf := zelse hf c34
    by_cases c36 : v2 = 8
    · have hf := zthen hf c36
      refine R_tableIn X (o := 164) 175 c36 dX9_pasture_11 (by decide) (by decide) (by decide) (by decide +kernel) (by decide) ?_
      refine R_aload_n X 0 dX9_pasture_175 rfl rfl ?_
      refine R_getR X (j := 0) 1 1 lc_0 rfl inX9 (by decide) rfl rfl (by decide) rfl rfl wf_X9_12 dX9_pasture_176 ?_
      refine R_getR X (j := 5) 3 4 lc_1 rfl inX7 (by decide) rfl rfl (by decide) rfl rfl wf_X9_47 dX9_pasture_179 ?_
      refine R_getR X (j := 4) 4 8 lc_4 rfl inX2 (by decide) rfl rfl (by decide) rfl rfl wf_X9_217 dX9_pasture_182 ?_
      refine R_iload_n X 1 dX9_pasture_185 rfl rfl ?_
      obtain ⟨hq35, hf⟩ := zgrd hf
      refine R_iald X lc_8 hq35 dX9_pasture_186 ?_
      exact R_iret X hr hk0 dX9_pasture_187 hf
    have hf := zelse hf c36
    refine R_tableOut X 188 hq5 dX9_pasture_11 (by omega) (by decide) ?_
    refine R_bipush X dX9_pasture_188 (by decide +kernel) ?_
    exact R_iret X hr hk0 dX9_pasture_190 hf
  · have hf := zthen hf c37
    refine R_iconst X dX9_pasture_8 ?_
    exact R_iret X hr hk0 dX9_pasture_9 hf
theorem dX9_post_0 : decode cX9_post 0 = .ok (.aload_n 0, 1) := by decide +kernel
theorem dX9_post_1 : decode cX9_post 1 = .ok (.getfield 12, 3) := by decide +kernel
theorem dX9_post_4 : decode cX9_post 4 = .ok (.getfield 47, 3) := by decide +kernel
theorem dX9_post_7 : decode cX9_post 7 = .ok (.invokevirtual 84, 3) := by decide +kernel
theorem dX9_post_10 : decode cX9_post 10 = .ok (.istore_n 1, 1) := by decide +kernel
theorem dX9_post_11 : decode cX9_post 11 = .ok (.iload_n 1, 1) := by decide +kernel
theorem dX9_post_12 : decode cX9_post 12 = .ok (.iconst 1, 1) := by decide +kernel
theorem dX9_post_13 : decode cX9_post 13 = .ok (.if_icmp .ge 6, 3) := by decide +kernel
theorem dX9_post_16 : decode cX9_post 16 = .ok (.bipush (-5), 2) := by decide +kernel
theorem dX9_post_18 : decode cX9_post 18 = .ok (.ireturn, 1) := by decide +kernel
theorem dX9_post_19 : decode cX9_post 19 = .ok (.aload_n 0, 1) := by decide +kernel
theorem dX9_post_20 : decode cX9_post 20 = .ok (.getfield 25, 3) := by decide +kernel
theorem dX9_post_23 : decode cX9_post 23 = .ok (.aload_n 0, 1) := by decide +kernel
theorem dX9_post_24 : decode cX9_post 24 = .ok (.getfield 12, 3) := by decide +kernel
theorem dX9_post_27 : decode cX9_post 27 = .ok (.invokevirtual 57, 3) := by decide +kernel
theorem dX9_post_30 : decode cX9_post 30 = .ok (.aload_n 0, 1) := by decide +kernel
theorem dX9_post_31 : decode cX9_post 31 = .ok (.getfield 12, 3) := by decide +kernel
theorem dX9_post_34 : decode cX9_post 34 = .ok (.invokevirtual 146, 3) := by decide +kernel
theorem dX9_post_37 : decode cX9_post 37 = .ok (.iload_n 1, 1) := by decide +kernel
theorem dX9_post_38 : decode cX9_post 38 = .ok (.ireturn, 1) := by decide +kernel
set_option maxRecDepth 100000 in
set_option maxHeartbeats 4000000 in
theorem c_X9_post (l : Launch) (D : va_G) (cas : Nat → ClassId) (ad : Nat → Nat) (hi : zInj ad)   {r : Int} {M M' : Mem} (hf : f_X9_post M = some (r, M')) : zMi l D cas ad yX9_post cX9_post 2 (some .int) 5 111 [.ref (ad 0)] M r M' := by
  refine zbody (by decide) (Nat.le_of_ble_eq_true rfl) hi ?_
  intro p e s m args below meth c X hr hk0
  have X : zX p s m args c cX9_post "ShardTrails" 2 D cas ad (zA ad) := X
  unfold f_X9_post at hf
  refine (?_ : WW p l e (zrm 5 111) s m args below meth c D cas ad (zA ad) 2 0 0 (MQ below (zQi D cas ad r M') args s 0 0 (zA ad)) 0 [(0, .ref (ad 0))] [] M)
  refine R_aload_n X 0 dX9_post_0 rfl rfl ?_
  refine R_getR X (j := 0) 1 1 lc_0 rfl inX9 (by decide) rfl rfl (by decide) rfl rfl wf_X9_12 dX9_post_1 ?_
  refine R_getR X (j := 5) 3 4 lc_1 rfl inX7 (by decide) rfl rfl (by decide) rfl rfl wf_X9_47 dX9_post_4 ?_
  obtain ⟨r1, M2, hc3, hf⟩ := zbnd_some hf
  refine R_callVi X (av := []) (rest := []) (c_X2_inns l D cas ad hi lc_4 hc3) zy_X2_inns lc_4 rfl rfl wm_X9_84 rfl rfl ⟨Nat.le_of_ble_eq_true rfl, Nat.le_of_ble_eq_true rfl⟩ ⟨Nat.le_refl _, Nat.le_refl _⟩ (Nat.le_of_ble_eq_true rfl) dX9_post_7 ?_
  refine R_istore_n X (lv' := [(1, .int (zI r1)), (0, .ref (ad 0))]) dX9_post_10 rfl (by decide) rfl ?_
  refine R_iload_n X 0 dX9_post_11 rfl rfl ?_
  refine R_iconst X dX9_post_12 ?_
  obtain ⟨hq4, hf⟩ := zgrd hf
  refine R_icmp_ge X 19 ⟨hq4, (by decide)⟩ dX9_post_13 (by decide) (fun c11 => ?_) (fun c11 => ?_)
  · have hf := zthen hf c11
    refine R_aload_n X 1 dX9_post_19 rfl rfl ?_
    refine R_getR X (j := 3) 88 88 lc_0 rfl inX9 (by decide) rfl rfl (by decide) rfl rfl wf_X9_25 dX9_post_20 ?_
    refine R_aload_n X 1 dX9_post_23 rfl rfl ?_
    refine R_getR X (j := 0) 1 1 lc_0 rfl inX9 (by decide) rfl rfl (by decide) rfl rfl wf_X9_12 dX9_post_24 ?_
    obtain ⟨r5, M6, hc7, hf⟩ := zbnd_some hf
    refine R_callVv X (av := [.ref (ad 1)]) (rest := []) (c_X1_store l D cas ad hi lc_1 hc7) zy_X1_store lc_88 rfl rfl wm_X9_57 rfl rfl ⟨Nat.le_of_ble_eq_true rfl, Nat.le_of_ble_eq_true rfl⟩ ⟨Nat.le_refl _, Nat.le_refl _⟩ (Nat.le_of_ble_eq_true rfl) dX9_post_27 ?_
    refine R_aload_n X 1 dX9_post_30 rfl rfl ?_
    refine R_getR X (j := 0) 1 1 lc_0 rfl inX9 (by decide) rfl rfl (by decide) rfl rfl wf_X9_12 dX9_post_31 ?_
    obtain ⟨r8, M9, hc10, hf⟩ := zbnd_some hf
    refine R_callVv X (av := []) (rest := []) (c_X7_letInnsPost l D cas ad hi lc_1 hc10) zy_X7_letInnsPost lc_1 rfl rfl wm_X9_146 rfl rfl ⟨Nat.le_of_ble_eq_true rfl, Nat.le_of_ble_eq_true rfl⟩ ⟨Nat.le_refl _, Nat.le_refl _⟩ (Nat.le_of_ble_eq_true rfl) dX9_post_34 ?_
    refine R_iload_n X 0 dX9_post_37 rfl rfl ?_
    exact R_iret X hr hk0 dX9_post_38 hf
  · have hf := zelse hf c11
    refine R_bipush X dX9_post_16 (by decide +kernel) ?_
    exact R_iret X hr hk0 dX9_post_18 hf
theorem dX6_put_0 : decode cX6_put 0 = .ok (.aload_n 0, 1) := by decide +kernel
theorem dX6_put_1 : decode cX6_put 1 = .ok (.getfield 74, 3) := by decide +kernel
theorem dX6_put_4 : decode cX6_put 4 = .ok (.sipush 137, 3) := by decide +kernel
theorem dX6_put_7 : decode cX6_put 7 = .ok (.if_icmp .ge 23, 3) := by decide +kernel
theorem dX6_put_10 : decode cX6_put 10 = .ok (.aload_n 0, 1) := by decide +kernel
theorem dX6_put_11 : decode cX6_put 11 = .ok (.getfield 9, 3) := by decide +kernel
theorem dX6_put_14 : decode cX6_put 14 = .ok (.aload_n 0, 1) := by decide +kernel
theorem dX6_put_15 : decode cX6_put 15 = .ok (.getfield 74, 3) := by decide +kernel
theorem dX6_put_18 : decode cX6_put 18 = .ok (.iload_n 1, 1) := by decide +kernel
theorem dX6_put_19 : decode cX6_put 19 = .ok (.iastore, 1) := by decide +kernel
theorem dX6_put_20 : decode cX6_put 20 = .ok (.aload_n 0, 1) := by decide +kernel
theorem dX6_put_21 : decode cX6_put 21 = .ok (.dup, 1) := by decide +kernel
theorem dX6_put_22 : decode cX6_put 22 = .ok (.getfield 74, 3) := by decide +kernel
theorem dX6_put_25 : decode cX6_put 25 = .ok (.iconst 1, 1) := by decide +kernel
theorem dX6_put_26 : decode cX6_put 26 = .ok (.iadd, 1) := by decide +kernel
theorem dX6_put_27 : decode cX6_put 27 = .ok (.putfield 74, 3) := by decide +kernel
theorem dX6_put_30 : decode cX6_put 30 = .ok (.return_, 1) := by decide +kernel
set_option maxRecDepth 100000 in
set_option maxHeartbeats 4000000 in
theorem c_X6_put (l : Launch) (D : va_G) (cas : Nat → ClassId) (ad : Nat → Nat) (hi : zInj ad) {v1 : Int}  {r : Int} {M M' : Mem} (hf : f_X6_put v1 M = some (r, M')) : zMv l D cas ad yX6_put cX6_put 2 0 0 [.ref (ad 206), .int (zI v1)] M M' := by
  refine zbody (by decide) (Nat.le_of_ble_eq_true rfl) hi ?_
  intro p e s m args below meth c X hr hk0
  have X : zX p s m args c cX6_put "ShardTrails$Route" 2 D cas ad (zA ad) := X
  have hB30 : ∀ (M : Mem), f_X6_put_b30 M = some (r, M') → WW p l e (zrm 0 0) s m args below meth c D cas ad (zA ad) 2 0 0 (MQ below (zQv D cas ad M') args s 0 0 (zA ad)) 30 [] [] M := by
    intro M hf
    unfold f_X6_put_b30 at hf
    exact R_vret X hr hk0 dX6_put_30 hf
  unfold f_X6_put at hf
  refine (?_ : WW p l e (zrm 0 0) s m args below meth c D cas ad (zA ad) 2 0 0 (MQ below (zQv D cas ad M') args s 0 0 (zA ad)) 0 [(0, .ref (ad 206)), (1, .int (zI v1))] [] M)
  refine R_aload_n X 0 dX6_put_0 rfl rfl ?_
  refine R_getI X (j := 5) lc_206 rfl inX6 (by decide) rfl rfl rfl wf_X6_74 dX6_put_1 ?_
  refine R_sipush X dX6_put_4 (by decide +kernel) ?_
  obtain ⟨hq1, hf⟩ := zgrd hf
  refine R_icmp_ge X 30 ⟨hq1, (by decide)⟩ dX6_put_7 (by decide) (fun c5 => ?_) (fun c5 => ?_)
  · have hf := zthen hf c5
    exact R_sub [] rfl (hB30 M hf)
  · have hf := zelse hf c5
    refine R_aload_n X 0 dX6_put_10 rfl rfl ?_
    refine R_getR X (j := 6) 1 207 lc_206 rfl inX6 (by decide) rfl rfl (by decide) rfl rfl wf_X6_9 dX6_put_11 ?_
    refine R_aload_n X 0 dX6_put_14 rfl rfl ?_
    refine R_getI X (j := 5) lc_206 rfl inX6 (by decide) rfl rfl rfl wf_X6_74 dX6_put_15 ?_
    refine R_iload_n X 1 dX6_put_18 rfl rfl ?_
    obtain ⟨hq2, hf⟩ := zgrd hf
    obtain ⟨M3, eM3, hf⟩ := zlt_some hf
    refine R_iast X lc_207 hq2 dX6_put_19 ?_
    refine R_mem eM3 ?_
    refine R_aload_n X 0 dX6_put_20 rfl rfl ?_
    refine R_dup X dX6_put_21 rfl ?_
    refine R_getI X (j := 5) lc_206 rfl inX6 (by decide) rfl rfl rfl wf_X6_74 dX6_put_22 ?_
    refine R_iconst X dX6_put_25 ?_
    refine R_iadd X dX6_put_26 ?_
    obtain ⟨M4, eM4, hf⟩ := zlt_some hf
    refine R_put X (j := 5) lc_206 rfl inX6 tyX6_ok nmX6 (by decide) rfl rfl rfl wf_X6_74 rfl (by decide +kernel) (z_nI _) (z_fI _) dX6_put_27 ?_
    refine R_mem eM4 ?_
    exact R_sub [] rfl (hB30 M4 hf)
theorem dX6_begin_0 : decode cX6_begin 0 = .ok (.aload_n 0, 1) := by decide +kernel
theorem dX6_begin_1 : decode cX6_begin 1 = .ok (.iconst 0, 1) := by decide +kernel
theorem dX6_begin_2 : decode cX6_begin 2 = .ok (.putfield 57, 3) := by decide +kernel
theorem dX6_begin_5 : decode cX6_begin 5 = .ok (.aload_n 0, 1) := by decide +kernel
theorem dX6_begin_6 : decode cX6_begin 6 = .ok (.iconst 0, 1) := by decide +kernel
theorem dX6_begin_7 : decode cX6_begin 7 = .ok (.putfield 61, 3) := by decide +kernel
theorem dX6_begin_10 : decode cX6_begin 10 = .ok (.aload_n 0, 1) := by decide +kernel
theorem dX6_begin_11 : decode cX6_begin 11 = .ok (.iconst 0, 1) := by decide +kernel
theorem dX6_begin_12 : decode cX6_begin 12 = .ok (.putfield 64, 3) := by decide +kernel
theorem dX6_begin_15 : decode cX6_begin 15 = .ok (.aload_n 0, 1) := by decide +kernel
theorem dX6_begin_16 : decode cX6_begin 16 = .ok (.iconst 0, 1) := by decide +kernel
theorem dX6_begin_17 : decode cX6_begin 17 = .ok (.putfield 67, 3) := by decide +kernel
theorem dX6_begin_20 : decode cX6_begin 20 = .ok (.aload_n 0, 1) := by decide +kernel
theorem dX6_begin_21 : decode cX6_begin 21 = .ok (.iconst 0, 1) := by decide +kernel
theorem dX6_begin_22 : decode cX6_begin 22 = .ok (.putfield 70, 3) := by decide +kernel
theorem dX6_begin_25 : decode cX6_begin 25 = .ok (.iconst 0, 1) := by decide +kernel
theorem dX6_begin_26 : decode cX6_begin 26 = .ok (.istore_n 2, 1) := by decide +kernel
theorem dX6_begin_27 : decode cX6_begin 27 = .ok (.iload_n 2, 1) := by decide +kernel
theorem dX6_begin_28 : decode cX6_begin 28 = .ok (.bipush 8, 2) := by decide +kernel
theorem dX6_begin_30 : decode cX6_begin 30 = .ok (.if_icmp .ge 23, 3) := by decide +kernel
theorem dX6_begin_33 : decode cX6_begin 33 = .ok (.aload_n 0, 1) := by decide +kernel
theorem dX6_begin_34 : decode cX6_begin 34 = .ok (.getfield 15, 3) := by decide +kernel
theorem dX6_begin_37 : decode cX6_begin 37 = .ok (.iload_n 2, 1) := by decide +kernel
theorem dX6_begin_38 : decode cX6_begin 38 = .ok (.iconst 0, 1) := by decide +kernel
theorem dX6_begin_39 : decode cX6_begin 39 = .ok (.bastore, 1) := by decide +kernel
theorem dX6_begin_40 : decode cX6_begin 40 = .ok (.aload_n 0, 1) := by decide +kernel
theorem dX6_begin_41 : decode cX6_begin 41 = .ok (.getfield 19, 3) := by decide +kernel
theorem dX6_begin_44 : decode cX6_begin 44 = .ok (.iload_n 2, 1) := by decide +kernel
theorem dX6_begin_45 : decode cX6_begin 45 = .ok (.iconst 0, 1) := by decide +kernel
theorem dX6_begin_46 : decode cX6_begin 46 = .ok (.bastore, 1) := by decide +kernel
theorem dX6_begin_47 : decode cX6_begin 47 = .ok (.iinc 2 1, 3) := by decide +kernel
theorem dX6_begin_50 : decode cX6_begin 50 = .ok (.goto (-23), 3) := by decide +kernel
theorem dX6_begin_53 : decode cX6_begin 53 = .ok (.aload_n 0, 1) := by decide +kernel
theorem dX6_begin_54 : decode cX6_begin 54 = .ok (.iconst 0, 1) := by decide +kernel
theorem dX6_begin_55 : decode cX6_begin 55 = .ok (.putfield 74, 3) := by decide +kernel
theorem dX6_begin_58 : decode cX6_begin 58 = .ok (.aload_n 0, 1) := by decide +kernel
theorem dX6_begin_59 : decode cX6_begin 59 = .ok (.iload_n 1, 1) := by decide +kernel
theorem dX6_begin_60 : decode cX6_begin 60 = .ok (.invokevirtual 54, 3) := by decide +kernel
theorem dX6_begin_63 : decode cX6_begin 63 = .ok (.return_, 1) := by decide +kernel
set_option maxRecDepth 100000 in
set_option maxHeartbeats 4000000 in
theorem c_X6_begin (l : Launch) (D : va_G) (cas : Nat → ClassId) (ad : Nat → Nat) (hi : zInj ad) {v1 : Int}  {r : Int} {M M' : Mem} (hf : f_X6_begin v1 M = some (r, M')) : zMv l D cas ad yX6_begin cX6_begin 3 1 21 [.ref (ad 206), .int (zI v1)] M M' := by
  refine zbody (by decide) (Nat.le_of_ble_eq_true rfl) hi ?_
  intro p e s m args below meth c X hr hk0
  have X : zX p s m args c cX6_begin "ShardTrails$Route" 3 D cas ad (zA ad) := X
  have hB27 : ∀ (n : Nat) (v1 v2 : Int) (M : Mem), f_X6_begin_b27 n v1 v2 M = some (r, M') → WW p l e (zrm 1 21) s m args below meth c D cas ad (zA ad) 3 0 0 (MQ below (zQv D cas ad M') args s 0 0 (zA ad)) 27 [(0, .ref (ad 206)), (1, .int (zI v1)), (2, .int (zI v2))] [] M := by
    intro n
    induction n with
    | zero => intro v1 v2 M hf; exact absurd hf (by unfold f_X6_begin_b27; simp)
    | succ n ih =>
      intro v1 v2 M hf
      unfold f_X6_begin_b27 at hf
      refine R_iload_n X 2 dX6_begin_27 rfl rfl ?_
      refine R_bipush X dX6_begin_28 (by decide +kernel) ?_
      obtain ⟨hq6, hf⟩ := zgrd hf
      refine R_icmp_ge X 53 ⟨hq6, (by decide)⟩ dX6_begin_30 (by decide) (fun c14 => ?_) (fun c14 => ?_)
      · have hf := zthen hf c14
        refine R_aload_n X 0 dX6_begin_53 rfl rfl ?_
        refine R_iconst X dX6_begin_54 ?_
        obtain ⟨M7, eM7, hf⟩ := zlt_some hf
        refine R_put X (j := 5) lc_206 rfl inX6 tyX6_ok nmX6 (by decide) rfl rfl rfl wf_X6_74 rfl (by decide +kernel) (z_nI _) (z_fI _) dX6_begin_55 ?_
        refine R_mem eM7 ?_
        refine R_aload_n X 0 dX6_begin_58 rfl rfl ?_
        refine R_iload_n X 1 dX6_begin_59 rfl rfl ?_
        obtain ⟨r8, M9, hc10, hf⟩ := zbnd_some hf
        refine R_callVv X (av := [.int (zI v1)]) (rest := []) (c_X6_put l D cas ad hi hc10) zy_X6_put lc_206 rfl rfl wm_X6_54 rfl rfl ⟨Nat.le_of_ble_eq_true rfl, Nat.le_of_ble_eq_true rfl⟩ ⟨Nat.le_refl _, Nat.le_refl _⟩ (Nat.le_of_ble_eq_true rfl) dX6_begin_60 ?_
        exact R_vret X hr hk0 dX6_begin_63 hf
      · have hf := zelse hf c14
        refine R_aload_n X 0 dX6_begin_33 rfl rfl ?_
        refine R_getR X (j := 7) 2 208 lc_206 rfl inX6 (by decide) rfl rfl (by decide) rfl rfl wf_X6_15 dX6_begin_34 ?_
        refine R_iload_n X 2 dX6_begin_37 rfl rfl ?_
        refine R_iconst X dX6_begin_38 ?_
        obtain ⟨hq11, hf⟩ := zgrd hf
        obtain ⟨M12, eM12, hf⟩ := zlt_some hf
        refine R_zast X lc_208 hq11 (Or.inl rfl) dX6_begin_39 ?_
        refine R_mem eM12 ?_
        refine R_aload_n X 0 dX6_begin_40 rfl rfl ?_
        refine R_getR X (j := 8) 3 209 lc_206 rfl inX6 (by decide) rfl rfl (by decide) rfl rfl wf_X6_19 dX6_begin_41 ?_
        refine R_iload_n X 2 dX6_begin_44 rfl rfl ?_
        refine R_iconst X dX6_begin_45 ?_
        obtain ⟨M13, eM13, hf⟩ := zlt_some hf
        refine R_zast X lc_209 hq11 (Or.inl rfl) dX6_begin_46 ?_
        refine R_mem eM13 ?_
        refine R_iinc X (lv' := [(2, .int (zI (v2 + 1))), (0, .ref (ad 206)), (1, .int (zI v1))]) 2 dX6_begin_47 rfl (by decide) rfl ?_
        refine R_goto X 27 dX6_begin_50 (by decide) ?_
        exact R_sub [1, 2, 0] rfl (ih v1 (v2 + 1) M13 hf)
  unfold f_X6_begin at hf
  refine (?_ : WW p l e (zrm 1 21) s m args below meth c D cas ad (zA ad) 3 0 0 (MQ below (zQv D cas ad M') args s 0 0 (zA ad)) 0 [(0, .ref (ad 206)), (1, .int (zI v1))] [] M)
  refine R_aload_n X 0 dX6_begin_0 rfl rfl ?_
  refine R_iconst X dX6_begin_1 ?_
  obtain ⟨M1, eM1, hf⟩ := zlt_some hf
  refine R_put X (j := 0) lc_206 rfl inX6 tyX6_ok nmX6 (by decide) rfl rfl rfl wf_X6_57 rfl (by decide +kernel) (z_nI _) (z_fI _) dX6_begin_2 ?_
  refine R_mem eM1 ?_
  refine R_aload_n X 0 dX6_begin_5 rfl rfl ?_
  refine R_iconst X dX6_begin_6 ?_
  obtain ⟨M2, eM2, hf⟩ := zlt_some hf
  refine R_put X (j := 1) lc_206 rfl inX6 tyX6_ok nmX6 (by decide) rfl rfl rfl wf_X6_61 rfl (by decide +kernel) (z_nI _) (z_fI _) dX6_begin_7 ?_
  refine R_mem eM2 ?_
  refine R_aload_n X 0 dX6_begin_10 rfl rfl ?_
  refine R_iconst X dX6_begin_11 ?_
  obtain ⟨M3, eM3, hf⟩ := zlt_some hf
  refine R_put X (j := 2) lc_206 rfl inX6 tyX6_ok nmX6 (by decide) rfl rfl rfl wf_X6_64 rfl (by decide +kernel) (z_nI _) (z_fI _) dX6_begin_12 ?_
  refine R_mem eM3 ?_
  refine R_aload_n X 0 dX6_begin_15 rfl rfl ?_
  refine R_iconst X dX6_begin_16 ?_
  obtain ⟨M4, eM4, hf⟩ := zlt_some hf
  refine R_put X (j := 3) lc_206 rfl inX6 tyX6_ok nmX6 (by decide) rfl rfl rfl wf_X6_67 rfl (by decide +kernel) (z_nI _) (z_fI _) dX6_begin_17 ?_
  refine R_mem eM4 ?_
  refine R_aload_n X 0 dX6_begin_20 rfl rfl ?_
  refine R_iconst X dX6_begin_21 ?_
  obtain ⟨M5, eM5, hf⟩ := zlt_some hf
  refine R_put X (j := 4) lc_206 rfl inX6 tyX6_ok nmX6 (by decide) rfl rfl rfl wf_X6_70 rfl (by decide +kernel) (z_nZ (Or.inl rfl)) (z_fZ (Or.inl rfl)) dX6_begin_22 ?_
  refine R_mem eM5 ?_
  refine R_iconst X dX6_begin_25 ?_
  refine R_istore_n X (lv' := [(2, .int (zI 0)), (0, .ref (ad 206)), (1, .int (zI v1))]) dX6_begin_26 rfl (by decide) rfl ?_
  exact R_sub [1, 2, 0] rfl (hB27 100000 v1 0 M5 hf)
theorem dX6_nearestNewInn_0 : decode cX6_nearestNewInn 0 = .ok (.bipush (-5), 2) := by decide +kernel
theorem dX6_nearestNewInn_2 : decode cX6_nearestNewInn 2 = .ok (.istore_n 3, 1) := by decide +kernel
theorem dX6_nearestNewInn_3 : decode cX6_nearestNewInn 3 = .ok (.bipush 91, 2) := by decide +kernel
theorem dX6_nearestNewInn_5 : decode cX6_nearestNewInn 5 = .ok (.istore 4, 2) := by decide +kernel
theorem dX6_nearestNewInn_7 : decode cX6_nearestNewInn 7 = .ok (.iconst 0, 1) := by decide +kernel
theorem dX6_nearestNewInn_8 : decode cX6_nearestNewInn 8 = .ok (.istore 5, 2) := by decide +kernel
theorem dX6_nearestNewInn_10 : decode cX6_nearestNewInn 10 = .ok (.iload 5, 2) := by decide +kernel
theorem dX6_nearestNewInn_12 : decode cX6_nearestNewInn 12 = .ok (.aload_n 1, 1) := by decide +kernel
theorem dX6_nearestNewInn_13 : decode cX6_nearestNewInn 13 = .ok (.getfield 103, 3) := by decide +kernel
theorem dX6_nearestNewInn_16 : decode cX6_nearestNewInn 16 = .ok (.if_icmp .ge 91, 3) := by decide +kernel
theorem dX6_nearestNewInn_19 : decode cX6_nearestNewInn 19 = .ok (.aload_n 1, 1) := by decide +kernel
theorem dX6_nearestNewInn_20 : decode cX6_nearestNewInn 20 = .ok (.getfield 106, 3) := by decide +kernel
theorem dX6_nearestNewInn_23 : decode cX6_nearestNewInn 23 = .ok (.iload 5, 2) := by decide +kernel
theorem dX6_nearestNewInn_25 : decode cX6_nearestNewInn 25 = .ok (.baload, 1) := by decide +kernel
theorem dX6_nearestNewInn_26 : decode cX6_nearestNewInn 26 = .ok (.ifCond .eq 27, 3) := by decide +kernel
theorem dX6_nearestNewInn_29 : decode cX6_nearestNewInn 29 = .ok (.aload_n 0, 1) := by decide +kernel
theorem dX6_nearestNewInn_30 : decode cX6_nearestNewInn 30 = .ok (.getfield 19, 3) := by decide +kernel
theorem dX6_nearestNewInn_33 : decode cX6_nearestNewInn 33 = .ok (.iload 5, 2) := by decide +kernel
theorem dX6_nearestNewInn_35 : decode cX6_nearestNewInn 35 = .ok (.baload, 1) := by decide +kernel
theorem dX6_nearestNewInn_36 : decode cX6_nearestNewInn 36 = .ok (.ifCond .ne 17, 3) := by decide +kernel
theorem dX6_nearestNewInn_39 : decode cX6_nearestNewInn 39 = .ok (.aload_n 0, 1) := by decide +kernel
theorem dX6_nearestNewInn_40 : decode cX6_nearestNewInn 40 = .ok (.getfield 15, 3) := by decide +kernel
theorem dX6_nearestNewInn_43 : decode cX6_nearestNewInn 43 = .ok (.iload 5, 2) := by decide +kernel
theorem dX6_nearestNewInn_45 : decode cX6_nearestNewInn 45 = .ok (.baload, 1) := by decide +kernel
theorem dX6_nearestNewInn_46 : decode cX6_nearestNewInn 46 = .ok (.ifCond .ne 7, 3) := by decide +kernel
theorem dX6_nearestNewInn_49 : decode cX6_nearestNewInn 49 = .ok (.iconst 1, 1) := by decide +kernel
theorem dX6_nearestNewInn_50 : decode cX6_nearestNewInn 50 = .ok (.goto 4, 3) := by decide +kernel
theorem dX6_nearestNewInn_53 : decode cX6_nearestNewInn 53 = .ok (.iconst 0, 1) := by decide +kernel
theorem dX6_nearestNewInn_54 : decode cX6_nearestNewInn 54 = .ok (.istore 6, 2) := by decide +kernel
theorem dX6_nearestNewInn_56 : decode cX6_nearestNewInn 56 = .ok (.iload 5, 2) := by decide +kernel
theorem dX6_nearestNewInn_58 : decode cX6_nearestNewInn 58 = .ok (.iload_n 2, 1) := by decide +kernel
theorem dX6_nearestNewInn_59 : decode cX6_nearestNewInn 59 = .ok (.if_icmp .eq 42, 3) := by decide +kernel
theorem dX6_nearestNewInn_62 : decode cX6_nearestNewInn 62 = .ok (.iload 6, 2) := by decide +kernel
theorem dX6_nearestNewInn_64 : decode cX6_nearestNewInn 64 = .ok (.ifCond .eq 37, 3) := by decide +kernel
theorem dX6_nearestNewInn_67 : decode cX6_nearestNewInn 67 = .ok (.aload_n 1, 1) := by decide +kernel
theorem dX6_nearestNewInn_68 : decode cX6_nearestNewInn 68 = .ok (.iload 5, 2) := by decide +kernel
theorem dX6_nearestNewInn_70 : decode cX6_nearestNewInn 70 = .ok (.aload_n 1, 1) := by decide +kernel
theorem dX6_nearestNewInn_71 : decode cX6_nearestNewInn 71 = .ok (.getfield 109, 3) := by decide +kernel
theorem dX6_nearestNewInn_74 : decode cX6_nearestNewInn 74 = .ok (.iload_n 2, 1) := by decide +kernel
theorem dX6_nearestNewInn_75 : decode cX6_nearestNewInn 75 = .ok (.iaload, 1) := by decide +kernel
theorem dX6_nearestNewInn_76 : decode cX6_nearestNewInn 76 = .ok (.invokevirtual 112, 3) := by decide +kernel
theorem dX6_nearestNewInn_79 : decode cX6_nearestNewInn 79 = .ok (.iload 4, 2) := by decide +kernel
theorem dX6_nearestNewInn_81 : decode cX6_nearestNewInn 81 = .ok (.if_icmp .ge 20, 3) := by decide +kernel
theorem dX6_nearestNewInn_84 : decode cX6_nearestNewInn 84 = .ok (.iload 5, 2) := by decide +kernel
theorem dX6_nearestNewInn_86 : decode cX6_nearestNewInn 86 = .ok (.istore_n 3, 1) := by decide +kernel
theorem dX6_nearestNewInn_87 : decode cX6_nearestNewInn 87 = .ok (.aload_n 1, 1) := by decide +kernel
theorem dX6_nearestNewInn_88 : decode cX6_nearestNewInn 88 = .ok (.iload 5, 2) := by decide +kernel
theorem dX6_nearestNewInn_90 : decode cX6_nearestNewInn 90 = .ok (.aload_n 1, 1) := by decide +kernel
theorem dX6_nearestNewInn_91 : decode cX6_nearestNewInn 91 = .ok (.getfield 109, 3) := by decide +kernel
theorem dX6_nearestNewInn_94 : decode cX6_nearestNewInn 94 = .ok (.iload_n 2, 1) := by decide +kernel
theorem dX6_nearestNewInn_95 : decode cX6_nearestNewInn 95 = .ok (.iaload, 1) := by decide +kernel
theorem dX6_nearestNewInn_96 : decode cX6_nearestNewInn 96 = .ok (.invokevirtual 112, 3) := by decide +kernel
theorem dX6_nearestNewInn_99 : decode cX6_nearestNewInn 99 = .ok (.istore 4, 2) := by decide +kernel
theorem dX6_nearestNewInn_101 : decode cX6_nearestNewInn 101 = .ok (.iinc 5 1, 3) := by decide +kernel
theorem dX6_nearestNewInn_104 : decode cX6_nearestNewInn 104 = .ok (.goto (-94), 3) := by decide +kernel
theorem dX6_nearestNewInn_107 : decode cX6_nearestNewInn 107 = .ok (.iload_n 3, 1) := by decide +kernel
theorem dX6_nearestNewInn_108 : decode cX6_nearestNewInn 108 = .ok (.ireturn, 1) := by decide +kernel
set_option maxRecDepth 100000 in
set_option maxHeartbeats 4000000 in
theorem c_X6_nearestNewInn (l : Launch) (D : va_G) (cas : Nat → ClassId) (ad : Nat → Nat) (hi : zInj ad) {k1 : Nat} {v2 : Int} (hk1 : k1 < zN ∧ lay k1 = (0, 2)) {r : Int} {M M' : Mem} (hf : f_X6_nearestNewInn k1 v2 M = some (r, M')) : zMi l D cas ad yX6_nearestNewInn cX6_nearestNewInn 7 (some .int) 2 43 [.ref (ad 206), .ref (ad k1), .int (zI v2)] M r M' := by
  refine zbody (by decide) (Nat.le_of_ble_eq_true rfl) hi ?_
  intro p e s m args below meth c X hr hk0
  have X : zX p s m args c cX6_nearestNewInn "ShardTrails$Route" 7 D cas ad (zA ad) := X
  have hB101 : ∀ (g10 : Int → Int → Int → Int → Mem → Option (Int × Mem)) (hg10 : ∀ (v2 v3 v4 v5 : Int) (M : Mem), g10 v2 v3 v4 v5 M = some (r, M') → WW p l e (zrm 2 43) s m args below meth c D cas ad (zA ad) 7 0 0 (MQ below (zQi D cas ad r M') args s 0 0 (zA ad)) 10 [(0, .ref (ad 206)), (1, .ref (ad k1)), (2, .int (zI v2)), (3, .int (zI v3)), (4, .int (zI v4)), (5, .int (zI v5))] [] M) (v2 v3 v4 v5 : Int) (M : Mem), f_X6_nearestNewInn_b101 g10 k1 v2 v3 v4 v5 M = some (r, M') → WW p l e (zrm 2 43) s m args below meth c D cas ad (zA ad) 7 0 0 (MQ below (zQi D cas ad r M') args s 0 0 (zA ad)) 101 [(0, .ref (ad 206)), (1, .ref (ad k1)), (2, .int (zI v2)), (3, .int (zI v3)), (4, .int (zI v4)), (5, .int (zI v5))] [] M := by
    intro g10 hg10 v2 v3 v4 v5 M hf
    unfold f_X6_nearestNewInn_b101 at hf
    refine R_iinc X (lv' := [(5, .int (zI (v5 + 1))), (0, .ref (ad 206)), (1, .ref (ad k1)), (2, .int (zI v2)), (3, .int (zI v3)), (4, .int (zI v4))]) 5 dX6_nearestNewInn_101 rfl (by decide) rfl ?_
    refine R_goto X 10 dX6_nearestNewInn_104 (by decide) ?_
    exact R_sub [1, 2, 3, 4, 5, 0] rfl (hg10 v2 v3 v4 (v5 + 1) M hf)
  have hB54 : ∀ (g10 : Int → Int → Int → Int → Mem → Option (Int × Mem)) (hg10 : ∀ (v2 v3 v4 v5 : Int) (M : Mem), g10 v2 v3 v4 v5 M = some (r, M') → WW p l e (zrm 2 43) s m args below meth c D cas ad (zA ad) 7 0 0 (MQ below (zQi D cas ad r M') args s 0 0 (zA ad)) 10 [(0, .ref (ad 206)), (1, .ref (ad k1)), (2, .int (zI v2)), (3, .int (zI v3)), (4, .int (zI v4)), (5, .int (zI v5))] [] M) (v2 v3 v4 v5 t1 : Int) (M : Mem), f_X6_nearestNewInn_b54 g10 k1 v2 v3 v4 v5 t1 M = some (r, M') → WW p l e (zrm 2 43) s m args below meth c D cas ad (zA ad) 7 0 0 (MQ below (zQi D cas ad r M') args s 0 0 (zA ad)) 54 [(0, .ref (ad 206)), (1, .ref (ad k1)), (2, .int (zI v2)), (3, .int (zI v3)), (4, .int (zI v4)), (5, .int (zI v5))] [.int (zI t1)] M := by
    intro g10 hg10 v2 v3 v4 v5 t1 M hf
    unfold f_X6_nearestNewInn_b54 at hf
    refine R_istore X (lv' := [(6, .int (zI t1)), (0, .ref (ad 206)), (1, .ref (ad k1)), (2, .int (zI v2)), (3, .int (zI v3)), (4, .int (zI v4)), (5, .int (zI v5))]) dX6_nearestNewInn_54 (by decide) rfl ?_
    refine R_iload X 6 dX6_nearestNewInn_56 rfl ?_
    refine R_iload_n X 3 dX6_nearestNewInn_58 rfl rfl ?_
    obtain ⟨hq12, hf⟩ := zgrd hf
    obtain ⟨hq13, hf⟩ := zgrd hf
    refine R_icmp_eq X 101 ⟨hq12, hq13⟩ dX6_nearestNewInn_59 (by decide) (fun c27 => ?_) (fun c27 => ?_)
    · have hf := zthen hf c27
      exact R_sub [1, 2, 3, 4, 5, 6] rfl (hB101 g10 hg10 v2 v3 v4 v5 M hf)
    · have hf := zelse hf c27
      refine R_iload X 0 dX6_nearestNewInn_62 rfl ?_
      obtain ⟨hq14, hf⟩ := zgrd hf
      refine R_if_eq X 101 hq14 dX6_nearestNewInn_64 (by decide) (fun c26 => ?_) (fun c26 => ?_)
      · have hf := zthen hf c26
        exact R_sub [1, 2, 3, 4, 5, 6] rfl (hB101 g10 hg10 v2 v3 v4 v5 M hf)
      · have hf := zelse hf c26
        refine R_aload_n X 2 dX6_nearestNewInn_67 rfl rfl ?_
        refine R_iload X 6 dX6_nearestNewInn_68 rfl ?_
        refine R_aload_n X 2 dX6_nearestNewInn_70 rfl rfl ?_
        have hp15 : k1 + 1 < zN ∧ lay (k1 + 1) = (1, 8) := pt_2_1 _ hk1.1 hk1.2
        refine R_getR X (j := 1) 1 (k1 + 1) hk1 rfl inX2 (by decide) rfl rfl (by decide) rfl rfl wf_X6_109 dX6_nearestNewInn_71 ?_
        refine R_iload_n X 3 dX6_nearestNewInn_74 rfl rfl ?_
        obtain ⟨hq16, hf⟩ := zgrd hf
        refine R_iald X hp15 hq16 dX6_nearestNewInn_75 ?_
        obtain ⟨r17, M18, hc19, hf⟩ := zbnd_some hf
        refine R_callVi X (av := [.int (zI v5), .int (zI (M (k1 + 1) v2.toNat))]) (rest := []) (c_X2_distance l D cas ad hi hk1 hc19) zy_X2_distance hk1 rfl rfl wm_X6_112 rfl rfl ⟨Nat.le_of_ble_eq_true rfl, Nat.le_of_ble_eq_true rfl⟩ ⟨Nat.le_refl _, Nat.le_refl _⟩ (Nat.le_of_ble_eq_true rfl) dX6_nearestNewInn_76 ?_
        refine R_iload X 5 dX6_nearestNewInn_79 rfl ?_
        obtain ⟨hq20, hf⟩ := zgrd hf
        obtain ⟨hq21, hf⟩ := zgrd hf
        refine R_icmp_ge X 101 ⟨hq20, hq21⟩ dX6_nearestNewInn_81 (by decide) (fun c25 => ?_) (fun c25 => ?_)
        · have hf := zthen hf c25
          exact R_sub [1, 2, 3, 4, 5, 6] rfl (hB101 g10 hg10 v2 v3 v4 v5 M18 hf)
        · have hf := zelse hf c25
          refine R_iload X 6 dX6_nearestNewInn_84 rfl ?_
          refine R_istore_n X (lv' := [(3, .int (zI v5)), (6, .int (zI t1)), (0, .ref (ad 206)), (1, .ref (ad k1)), (2, .int (zI v2)), (4, .int (zI v4)), (5, .int (zI v5))]) dX6_nearestNewInn_86 rfl (by decide) rfl ?_
          refine R_aload_n X 3 dX6_nearestNewInn_87 rfl rfl ?_
          refine R_iload X 6 dX6_nearestNewInn_88 rfl ?_
          refine R_aload_n X 3 dX6_nearestNewInn_90 rfl rfl ?_
          refine R_getR X (j := 1) 1 (k1 + 1) hk1 rfl inX2 (by decide) rfl rfl (by decide) rfl rfl wf_X6_109 dX6_nearestNewInn_91 ?_
          refine R_iload_n X 4 dX6_nearestNewInn_94 rfl rfl ?_
          refine R_iald X hp15 hq16 dX6_nearestNewInn_95 ?_
          obtain ⟨r22, M23, hc24, hf⟩ := zbnd_some hf
          refine R_callVi X (av := [.int (zI v5), .int (zI (M18 (k1 + 1) v2.toNat))]) (rest := []) (c_X2_distance l D cas ad hi hk1 hc24) zy_X2_distance hk1 rfl rfl wm_X6_112 rfl rfl ⟨Nat.le_of_ble_eq_true rfl, Nat.le_of_ble_eq_true rfl⟩ ⟨Nat.le_refl _, Nat.le_refl _⟩ (Nat.le_of_ble_eq_true rfl) dX6_nearestNewInn_96 ?_
          refine R_istore X (lv' := [(4, .int (zI r22)), (3, .int (zI v5)), (6, .int (zI t1)), (0, .ref (ad 206)), (1, .ref (ad k1)), (2, .int (zI v2)), (5, .int (zI v5))]) dX6_nearestNewInn_99 (by decide) rfl ?_
          exact R_sub [3, 4, 5, 1, 0, 6] rfl (hB101 g10 hg10 v2 v5 r22 v5 M23 hf)
  have hB53 : ∀ (g10 : Int → Int → Int → Int → Mem → Option (Int × Mem)) (hg10 : ∀ (v2 v3 v4 v5 : Int) (M : Mem), g10 v2 v3 v4 v5 M = some (r, M') → WW p l e (zrm 2 43) s m args below meth c D cas ad (zA ad) 7 0 0 (MQ below (zQi D cas ad r M') args s 0 0 (zA ad)) 10 [(0, .ref (ad 206)), (1, .ref (ad k1)), (2, .int (zI v2)), (3, .int (zI v3)), (4, .int (zI v4)), (5, .int (zI v5))] [] M) (v2 v3 v4 v5 : Int) (M : Mem), f_X6_nearestNewInn_b53 g10 k1 v2 v3 v4 v5 M = some (r, M') → WW p l e (zrm 2 43) s m args below meth c D cas ad (zA ad) 7 0 0 (MQ below (zQi D cas ad r M') args s 0 0 (zA ad)) 53 [(0, .ref (ad 206)), (1, .ref (ad k1)), (2, .int (zI v2)), (3, .int (zI v3)), (4, .int (zI v4)), (5, .int (zI v5))] [] M := by
    intro g10 hg10 v2 v3 v4 v5 M hf
    unfold f_X6_nearestNewInn_b53 at hf
    refine R_iconst X dX6_nearestNewInn_53 ?_
    exact R_sub [0, 1, 2, 3, 4, 5] rfl (hB54 g10 hg10 v2 v3 v4 v5 0 M hf)
  have hB10 : ∀ (n : Nat) (v2 v3 v4 v5 : Int) (M : Mem), f_X6_nearestNewInn_b10 k1 n v2 v3 v4 v5 M = some (r, M') → WW p l e (zrm 2 43) s m args below meth c D cas ad (zA ad) 7 0 0 (MQ below (zQi D cas ad r M') args s 0 0 (zA ad)) 10 [(0, .ref (ad 206)), (1, .ref (ad k1)), (2, .int (zI v2)), (3, .int (zI v3)), (4, .int (zI v4)), (5, .int (zI v5))] [] M := by
    intro n
    induction n with
    | zero => intro v2 v3 v4 v5 M hf; exact absurd hf (by unfold f_X6_nearestNewInn_b10; simp)
    | succ n ih =>
      intro v2 v3 v4 v5 M hf
      unfold f_X6_nearestNewInn_b10 at hf
      refine R_iload X 5 dX6_nearestNewInn_10 rfl ?_
      refine R_aload_n X 1 dX6_nearestNewInn_12 rfl rfl ?_
      refine R_getI X (j := 0) hk1 rfl inX2 (by decide) rfl rfl rfl wf_X6_103 dX6_nearestNewInn_13 ?_
      obtain ⟨hq1, hf⟩ := zgrd hf
      obtain ⟨hq2, hf⟩ := zgrd hf
      refine R_icmp_ge X 107 ⟨hq1, hq2⟩ dX6_nearestNewInn_16 (by decide) (fun c11 => ?_) (fun c11 => ?_)
      · have hf := zthen hf c11
        refine R_iload_n X 3 dX6_nearestNewInn_107 rfl rfl ?_
        exact R_iret X hr hk0 dX6_nearestNewInn_108 hf
      · have hf := zelse hf c11
        refine R_aload_n X 1 dX6_nearestNewInn_19 rfl rfl ?_
        have hp3 : k1 + 5 < zN ∧ lay (k1 + 5) = (2, 8) := pt_2_5 _ hk1.1 hk1.2
        refine R_getR X (j := 5) 5 (k1 + 5) hk1 rfl inX2 (by decide) rfl rfl (by decide) rfl rfl wf_X6_106 dX6_nearestNewInn_20 ?_
        refine R_iload X 5 dX6_nearestNewInn_23 rfl ?_
        obtain ⟨hq4, hf⟩ := zgrd hf
        refine R_zald X hp3 hq4 dX6_nearestNewInn_25 ?_
        obtain ⟨hq5, hf⟩ := zgrd hf
        refine R_if_eq X 53 hq5 dX6_nearestNewInn_26 (by decide) (fun c10 => ?_) (fun c10 => ?_)
        · have hf := zthen hf c10
          exact R_sub [0, 1, 2, 3, 4, 5] rfl (hB53 (f_X6_nearestNewInn_b10 k1 n) ih v2 v3 v4 v5 M hf)
        · have hf := zelse hf c10
          refine R_aload_n X 0 dX6_nearestNewInn_29 rfl rfl ?_
          refine R_getR X (j := 8) 3 209 lc_206 rfl inX6 (by decide) rfl rfl (by decide) rfl rfl wf_X6_19 dX6_nearestNewInn_30 ?_
          refine R_iload X 5 dX6_nearestNewInn_33 rfl ?_
          refine R_zald X lc_209 hq4 dX6_nearestNewInn_35 ?_
          obtain ⟨hq6, hf⟩ := zgrd hf
          refine R_if_ne X 53 hq6 dX6_nearestNewInn_36 (by decide) (fun c9 => ?_) (fun c9 => ?_)
          · have hf := zelse hf c9
            exact R_sub [0, 1, 2, 3, 4, 5] rfl (hB53 (f_X6_nearestNewInn_b10 k1 n) ih v2 v3 v4 v5 M hf)
          · have hf := zthen hf c9
            refine R_aload_n X 0 dX6_nearestNewInn_39 rfl rfl ?_
            refine R_getR X (j := 7) 2 208 lc_206 rfl inX6 (by decide) rfl rfl (by decide) rfl rfl wf_X6_15 dX6_nearestNewInn_40 ?_
            refine R_iload X 5 dX6_nearestNewInn_43 rfl ?_
            refine R_zald X lc_208 hq4 dX6_nearestNewInn_45 ?_
            obtain ⟨hq7, hf⟩ := zgrd hf
            refine R_if_ne X 53 hq7 dX6_nearestNewInn_46 (by decide) (fun c8 => ?_) (fun c8 => ?_)
            · have hf := zelse hf c8
              exact R_sub [0, 1, 2, 3, 4, 5] rfl (hB53 (f_X6_nearestNewInn_b10 k1 n) ih v2 v3 v4 v5 M hf)
            · have hf := zthen hf c8
              refine R_iconst X dX6_nearestNewInn_49 ?_
              refine R_goto X 54 dX6_nearestNewInn_50 (by decide) ?_
              exact R_sub [0, 1, 2, 3, 4, 5] rfl (hB54 (f_X6_nearestNewInn_b10 k1 n) ih v2 v3 v4 v5 1 M hf)
  unfold f_X6_nearestNewInn at hf
  refine (?_ : WW p l e (zrm 2 43) s m args below meth c D cas ad (zA ad) 7 0 0 (MQ below (zQi D cas ad r M') args s 0 0 (zA ad)) 0 [(0, .ref (ad 206)), (1, .ref (ad k1)), (2, .int (zI v2))] [] M)
  refine R_bipush X dX6_nearestNewInn_0 (by decide +kernel) ?_
  refine R_istore_n X (lv' := [(3, .int (zI (-5))), (0, .ref (ad 206)), (1, .ref (ad k1)), (2, .int (zI v2))]) dX6_nearestNewInn_2 rfl (by decide) rfl ?_
  refine R_bipush X dX6_nearestNewInn_3 (by decide +kernel) ?_
  refine R_istore X (lv' := [(4, .int (zI 91)), (3, .int (zI (-5))), (0, .ref (ad 206)), (1, .ref (ad k1)), (2, .int (zI v2))]) dX6_nearestNewInn_5 (by decide) rfl ?_
  refine R_iconst X dX6_nearestNewInn_7 ?_
  refine R_istore X (lv' := [(5, .int (zI 0)), (4, .int (zI 91)), (3, .int (zI (-5))), (0, .ref (ad 206)), (1, .ref (ad k1)), (2, .int (zI v2))]) dX6_nearestNewInn_8 (by decide) rfl ?_
  exact R_sub [3, 4, 5, 2, 1, 0] rfl (hB10 100000 v2 (-5) 91 0 M hf)
theorem dX6_next_0 : decode cX6_next 0 = .ok (.aload_n 1, 1) := by decide +kernel
theorem dX6_next_1 : decode cX6_next 1 = .ok (.getfield 77, 3) := by decide +kernel
theorem dX6_next_4 : decode cX6_next 4 = .ok (.iload_n 3, 1) := by decide +kernel
theorem dX6_next_5 : decode cX6_next 5 = .ok (.iload_n 2, 1) := by decide +kernel
theorem dX6_next_6 : decode cX6_next 6 = .ok (.invokevirtual 81, 3) := by decide +kernel
theorem dX6_next_9 : decode cX6_next 9 = .ok (.ifCond .eq 37, 3) := by decide +kernel
theorem dX6_next_12 : decode cX6_next 12 = .ok (.aload_n 0, 1) := by decide +kernel
theorem dX6_next_13 : decode cX6_next 13 = .ok (.dup, 1) := by decide +kernel
theorem dX6_next_14 : decode cX6_next 14 = .ok (.getfield 57, 3) := by decide +kernel
theorem dX6_next_17 : decode cX6_next 17 = .ok (.iconst 1, 1) := by decide +kernel
theorem dX6_next_18 : decode cX6_next 18 = .ok (.iadd, 1) := by decide +kernel
theorem dX6_next_19 : decode cX6_next 19 = .ok (.putfield 57, 3) := by decide +kernel
theorem dX6_next_22 : decode cX6_next 22 = .ok (.aload_n 0, 1) := by decide +kernel
theorem dX6_next_23 : decode cX6_next 23 = .ok (.dup, 1) := by decide +kernel
theorem dX6_next_24 : decode cX6_next 24 = .ok (.getfield 61, 3) := by decide +kernel
theorem dX6_next_27 : decode cX6_next 27 = .ok (.iconst 1, 1) := by decide +kernel
theorem dX6_next_28 : decode cX6_next 28 = .ok (.iadd, 1) := by decide +kernel
theorem dX6_next_29 : decode cX6_next 29 = .ok (.putfield 61, 3) := by decide +kernel
theorem dX6_next_32 : decode cX6_next 32 = .ok (.aload_n 1, 1) := by decide +kernel
theorem dX6_next_33 : decode cX6_next 33 = .ok (.getfield 77, 3) := by decide +kernel
theorem dX6_next_36 : decode cX6_next 36 = .ok (.getfield 87, 3) := by decide +kernel
theorem dX6_next_39 : decode cX6_next 39 = .ok (.iload_n 3, 1) := by decide +kernel
theorem dX6_next_40 : decode cX6_next 40 = .ok (.iload_n 2, 1) := by decide +kernel
theorem dX6_next_41 : decode cX6_next 41 = .ok (.invokestatic 33, 3) := by decide +kernel
theorem dX6_next_44 : decode cX6_next 44 = .ok (.iaload, 1) := by decide +kernel
theorem dX6_next_45 : decode cX6_next 45 = .ok (.ireturn, 1) := by decide +kernel
theorem dX6_next_46 : decode cX6_next 46 = .ok (.aload_n 1, 1) := by decide +kernel
theorem dX6_next_47 : decode cX6_next 47 = .ok (.getfield 90, 3) := by decide +kernel
theorem dX6_next_50 : decode cX6_next 50 = .ok (.getfield 94, 3) := by decide +kernel
theorem dX6_next_53 : decode cX6_next 53 = .ok (.iload_n 3, 1) := by decide +kernel
theorem dX6_next_54 : decode cX6_next 54 = .ok (.iload_n 2, 1) := by decide +kernel
theorem dX6_next_55 : decode cX6_next 55 = .ok (.invokestatic 33, 3) := by decide +kernel
theorem dX6_next_58 : decode cX6_next 58 = .ok (.iaload, 1) := by decide +kernel
theorem dX6_next_59 : decode cX6_next 59 = .ok (.istore 4, 2) := by decide +kernel
theorem dX6_next_61 : decode cX6_next 61 = .ok (.aload_n 0, 1) := by decide +kernel
theorem dX6_next_62 : decode cX6_next 62 = .ok (.getfield 15, 3) := by decide +kernel
theorem dX6_next_65 : decode cX6_next 65 = .ok (.iload_n 3, 1) := by decide +kernel
theorem dX6_next_66 : decode cX6_next 66 = .ok (.baload, 1) := by decide +kernel
theorem dX6_next_67 : decode cX6_next 67 = .ok (.ifCond .ne 46, 3) := by decide +kernel
theorem dX6_next_70 : decode cX6_next 70 = .ok (.iload 4, 2) := by decide +kernel
theorem dX6_next_72 : decode cX6_next 72 = .ok (.bipush (-5), 2) := by decide +kernel
theorem dX6_next_74 : decode cX6_next 74 = .ok (.if_icmp .eq 39, 3) := by decide +kernel
theorem dX6_next_77 : decode cX6_next 77 = .ok (.iload 4, 2) := by decide +kernel
theorem dX6_next_79 : decode cX6_next 79 = .ok (.iload_n 3, 1) := by decide +kernel
theorem dX6_next_80 : decode cX6_next 80 = .ok (.if_icmp .eq 33, 3) := by decide +kernel
theorem dX6_next_83 : decode cX6_next 83 = .ok (.aload_n 0, 1) := by decide +kernel
theorem dX6_next_84 : decode cX6_next 84 = .ok (.dup, 1) := by decide +kernel
theorem dX6_next_85 : decode cX6_next 85 = .ok (.getfield 57, 3) := by decide +kernel
theorem dX6_next_88 : decode cX6_next 88 = .ok (.iconst 1, 1) := by decide +kernel
theorem dX6_next_89 : decode cX6_next 89 = .ok (.iadd, 1) := by decide +kernel
theorem dX6_next_90 : decode cX6_next 90 = .ok (.putfield 57, 3) := by decide +kernel
theorem dX6_next_93 : decode cX6_next 93 = .ok (.aload_n 0, 1) := by decide +kernel
theorem dX6_next_94 : decode cX6_next 94 = .ok (.dup, 1) := by decide +kernel
theorem dX6_next_95 : decode cX6_next 95 = .ok (.getfield 64, 3) := by decide +kernel
theorem dX6_next_98 : decode cX6_next 98 = .ok (.iconst 1, 1) := by decide +kernel
theorem dX6_next_99 : decode cX6_next 99 = .ok (.iadd, 1) := by decide +kernel
theorem dX6_next_100 : decode cX6_next 100 = .ok (.putfield 64, 3) := by decide +kernel
theorem dX6_next_103 : decode cX6_next 103 = .ok (.aload_n 0, 1) := by decide +kernel
theorem dX6_next_104 : decode cX6_next 104 = .ok (.getfield 15, 3) := by decide +kernel
theorem dX6_next_107 : decode cX6_next 107 = .ok (.iload_n 3, 1) := by decide +kernel
theorem dX6_next_108 : decode cX6_next 108 = .ok (.iconst 1, 1) := by decide +kernel
theorem dX6_next_109 : decode cX6_next 109 = .ok (.bastore, 1) := by decide +kernel
theorem dX6_next_110 : decode cX6_next 110 = .ok (.iload 4, 2) := by decide +kernel
theorem dX6_next_112 : decode cX6_next 112 = .ok (.ireturn, 1) := by decide +kernel
theorem dX6_next_113 : decode cX6_next 113 = .ok (.aload_n 0, 1) := by decide +kernel
theorem dX6_next_114 : decode cX6_next 114 = .ok (.aload_n 1, 1) := by decide +kernel
theorem dX6_next_115 : decode cX6_next 115 = .ok (.getfield 90, 3) := by decide +kernel
theorem dX6_next_118 : decode cX6_next 118 = .ok (.iload_n 3, 1) := by decide +kernel
theorem dX6_next_119 : decode cX6_next 119 = .ok (.invokevirtual 99, 3) := by decide +kernel
theorem dX6_next_122 : decode cX6_next 122 = .ok (.istore 5, 2) := by decide +kernel
theorem dX6_next_124 : decode cX6_next 124 = .ok (.iload 5, 2) := by decide +kernel
theorem dX6_next_126 : decode cX6_next 126 = .ok (.bipush (-5), 2) := by decide +kernel
theorem dX6_next_128 : decode cX6_next 128 = .ok (.if_icmp .eq 34, 3) := by decide +kernel
theorem dX6_next_131 : decode cX6_next 131 = .ok (.aload_n 0, 1) := by decide +kernel
theorem dX6_next_132 : decode cX6_next 132 = .ok (.dup, 1) := by decide +kernel
theorem dX6_next_133 : decode cX6_next 133 = .ok (.getfield 57, 3) := by decide +kernel
theorem dX6_next_136 : decode cX6_next 136 = .ok (.iconst 1, 1) := by decide +kernel
theorem dX6_next_137 : decode cX6_next 137 = .ok (.iadd, 1) := by decide +kernel
theorem dX6_next_138 : decode cX6_next 138 = .ok (.putfield 57, 3) := by decide +kernel
theorem dX6_next_141 : decode cX6_next 141 = .ok (.aload_n 0, 1) := by decide +kernel
theorem dX6_next_142 : decode cX6_next 142 = .ok (.dup, 1) := by decide +kernel
theorem dX6_next_143 : decode cX6_next 143 = .ok (.getfield 67, 3) := by decide +kernel
theorem dX6_next_146 : decode cX6_next 146 = .ok (.iconst 1, 1) := by decide +kernel
theorem dX6_next_147 : decode cX6_next 147 = .ok (.iadd, 1) := by decide +kernel
theorem dX6_next_148 : decode cX6_next 148 = .ok (.putfield 67, 3) := by decide +kernel
theorem dX6_next_151 : decode cX6_next 151 = .ok (.aload_n 0, 1) := by decide +kernel
theorem dX6_next_152 : decode cX6_next 152 = .ok (.getfield 19, 3) := by decide +kernel
theorem dX6_next_155 : decode cX6_next 155 = .ok (.iload 5, 2) := by decide +kernel
theorem dX6_next_157 : decode cX6_next 157 = .ok (.iconst 1, 1) := by decide +kernel
theorem dX6_next_158 : decode cX6_next 158 = .ok (.bastore, 1) := by decide +kernel
theorem dX6_next_159 : decode cX6_next 159 = .ok (.iload 5, 2) := by decide +kernel
theorem dX6_next_161 : decode cX6_next 161 = .ok (.ireturn, 1) := by decide +kernel
theorem dX6_next_162 : decode cX6_next 162 = .ok (.aload_n 0, 1) := by decide +kernel
theorem dX6_next_163 : decode cX6_next 163 = .ok (.dup, 1) := by decide +kernel
theorem dX6_next_164 : decode cX6_next 164 = .ok (.getfield 57, 3) := by decide +kernel
theorem dX6_next_167 : decode cX6_next 167 = .ok (.aload_n 1, 1) := by decide +kernel
theorem dX6_next_168 : decode cX6_next 168 = .ok (.getfield 90, 3) := by decide +kernel
theorem dX6_next_171 : decode cX6_next 171 = .ok (.getfield 103, 3) := by decide +kernel
theorem dX6_next_174 : decode cX6_next 174 = .ok (.iadd, 1) := by decide +kernel
theorem dX6_next_175 : decode cX6_next 175 = .ok (.putfield 57, 3) := by decide +kernel
theorem dX6_next_178 : decode cX6_next 178 = .ok (.aload_n 0, 1) := by decide +kernel
theorem dX6_next_179 : decode cX6_next 179 = .ok (.iconst 1, 1) := by decide +kernel
theorem dX6_next_180 : decode cX6_next 180 = .ok (.putfield 70, 3) := by decide +kernel
theorem dX6_next_183 : decode cX6_next 183 = .ok (.aload_n 1, 1) := by decide +kernel
theorem dX6_next_184 : decode cX6_next 184 = .ok (.getfield 37, 3) := by decide +kernel
theorem dX6_next_187 : decode cX6_next 187 = .ok (.getfield 41, 3) := by decide +kernel
theorem dX6_next_190 : decode cX6_next 190 = .ok (.iload_n 2, 1) := by decide +kernel
theorem dX6_next_191 : decode cX6_next 191 = .ok (.iaload, 1) := by decide +kernel
theorem dX6_next_192 : decode cX6_next 192 = .ok (.ireturn, 1) := by decide +kernel
set_option maxRecDepth 100000 in
set_option maxHeartbeats 4000000 in
theorem c_X6_next (l : Launch) (D : va_G) (cas : Nat → ClassId) (ad : Nat → Nat) (hi : zInj ad) {k1 : Nat} {v2 : Int} {v3 : Int} (hk1 : k1 < zN ∧ lay k1 = (0, 7)) {r : Int} {M M' : Mem} (hf : f_X6_next k1 v2 v3 M = some (r, M')) : zMi l D cas ad yX6_next cX6_next 6 (some .int) 3 69 [.ref (ad 206), .ref (ad k1), .int (zI v2), .int (zI v3)] M r M' := by
  refine zbody (by decide) (Nat.le_of_ble_eq_true rfl) hi ?_
  intro p e s m args below meth c X hr hk0
  have X : zX p s m args c cX6_next "ShardTrails$Route" 6 D cas ad (zA ad) := X
  have hB113 : ∀ (v2 v3 : Int) (M : Mem), f_X6_next_b113 k1 v2 v3 M = some (r, M') → WW p l e (zrm 3 69) s m args below meth c D cas ad (zA ad) 6 0 0 (MQ below (zQi D cas ad r M') args s 0 0 (zA ad)) 113 [(0, .ref (ad 206)), (1, .ref (ad k1)), (2, .int (zI v2)), (3, .int (zI v3))] [] M := by
    intro v2 v3 M hf
    unfold f_X6_next_b113 at hf
    refine R_aload_n X 0 dX6_next_113 rfl rfl ?_
    refine R_aload_n X 1 dX6_next_114 rfl rfl ?_
    have hp31 : k1 + 3 < zN ∧ lay (k1 + 3) = (0, 2) := pt_7_5 _ hk1.1 hk1.2
    refine R_getR X (j := 5) 3 (k1 + 3) hk1 rfl inX7 (by decide) rfl rfl (by decide) rfl rfl wf_X6_90 dX6_next_115 ?_
    refine R_iload_n X 3 dX6_next_118 rfl rfl ?_
    obtain ⟨r32, M33, hc34, hf⟩ := zbnd_some hf
    refine R_callVi X (av := [.ref (ad (k1 + 3)), .int (zI v3)]) (rest := []) (c_X6_nearestNewInn l D cas ad hi hp31 hc34) zy_X6_nearestNewInn lc_206 rfl rfl wm_X6_99 rfl rfl ⟨Nat.le_of_ble_eq_true rfl, Nat.le_of_ble_eq_true rfl⟩ ⟨Nat.le_refl _, Nat.le_refl _⟩ (Nat.le_of_ble_eq_true rfl) dX6_next_119 ?_
    refine R_istore X (lv' := [(5, .int (zI r32)), (0, .ref (ad 206)), (1, .ref (ad k1)), (2, .int (zI v2)), (3, .int (zI v3))]) dX6_next_122 (by decide) rfl ?_
    refine R_iload X 0 dX6_next_124 rfl ?_
    refine R_bipush X dX6_next_126 (by decide +kernel) ?_
    obtain ⟨hq35, hf⟩ := zgrd hf
    refine R_icmp_eq X 162 ⟨hq35, (by decide)⟩ dX6_next_128 (by decide) (fun c45 => ?_) (fun c45 => ?_)
    · have hf := zthen hf c45
      refine R_aload_n X 1 dX6_next_162 rfl rfl ?_
      refine R_dup X dX6_next_163 rfl ?_
      refine R_getI X (j := 0) lc_206 rfl inX6 (by decide) rfl rfl rfl wf_X6_57 dX6_next_164 ?_
      refine R_aload_n X 2 dX6_next_167 rfl rfl ?_
      refine R_getR X (j := 5) 3 (k1 + 3) hk1 rfl inX7 (by decide) rfl rfl (by decide) rfl rfl wf_X6_90 dX6_next_168 ?_
      refine R_getI X (j := 0) hp31 rfl inX2 (by decide) rfl rfl rfl wf_X6_103 dX6_next_171 ?_
      refine R_iadd X dX6_next_174 ?_
      obtain ⟨M36, eM36, hf⟩ := zlt_some hf
      refine R_put X (j := 0) lc_206 rfl inX6 tyX6_ok nmX6 (by decide) rfl rfl rfl wf_X6_57 rfl (by decide +kernel) (z_nI _) (z_fI _) dX6_next_175 ?_
      refine R_mem eM36 ?_
      refine R_aload_n X 1 dX6_next_178 rfl rfl ?_
      refine R_iconst X dX6_next_179 ?_
      obtain ⟨M37, eM37, hf⟩ := zlt_some hf
      refine R_put X (j := 4) lc_206 rfl inX6 tyX6_ok nmX6 (by decide) rfl rfl rfl wf_X6_70 rfl (by decide +kernel) (z_nZ (Or.inr rfl)) (z_fZ (Or.inr rfl)) dX6_next_180 ?_
      refine R_mem eM37 ?_
      refine R_aload_n X 2 dX6_next_183 rfl rfl ?_
      have hp38 : k1 + 13 < zN ∧ lay (k1 + 13) = (0, 0) := pt_7_7 _ hk1.1 hk1.2
      refine R_getR X (j := 7) 13 (k1 + 13) hk1 rfl inX7 (by decide) rfl rfl (by decide) rfl rfl wf_X6_37 dX6_next_184 ?_
      have hp39 : k1 + 14 < zN ∧ lay (k1 + 14) = (1, 16) := pt_0_0 _ hp38.1 hp38.2
      refine R_getR X (j := 0) 1 (k1 + 14) hp38 rfl inX0 (by decide) rfl rfl (by decide) rfl rfl wf_X6_41 dX6_next_187 ?_
      refine R_iload_n X 3 dX6_next_190 rfl rfl ?_
      obtain ⟨hq40, hf⟩ := zgrd hf
      refine R_iald X hp39 hq40 dX6_next_191 ?_
      exact R_iret X hr hk0 dX6_next_192 hf
    · have hf := zelse hf c45
      refine R_aload_n X 1 dX6_next_131 rfl rfl ?_
      refine R_dup X dX6_next_132 rfl ?_
      refine R_getI X (j := 0) lc_206 rfl inX6 (by decide) rfl rfl rfl wf_X6_57 dX6_next_133 ?_
      refine R_iconst X dX6_next_136 ?_
      refine R_iadd X dX6_next_137 ?_
      obtain ⟨M41, eM41, hf⟩ := zlt_some hf
      refine R_put X (j := 0) lc_206 rfl inX6 tyX6_ok nmX6 (by decide) rfl rfl rfl wf_X6_57 rfl (by decide +kernel) (z_nI _) (z_fI _) dX6_next_138 ?_
      refine R_mem eM41 ?_
      refine R_aload_n X 1 dX6_next_141 rfl rfl ?_
      refine R_dup X dX6_next_142 rfl ?_
      refine R_getI X (j := 3) lc_206 rfl inX6 (by decide) rfl rfl rfl wf_X6_67 dX6_next_143 ?_
      refine R_iconst X dX6_next_146 ?_
      refine R_iadd X dX6_next_147 ?_
      obtain ⟨M42, eM42, hf⟩ := zlt_some hf
      refine R_put X (j := 3) lc_206 rfl inX6 tyX6_ok nmX6 (by decide) rfl rfl rfl wf_X6_67 rfl (by decide +kernel) (z_nI _) (z_fI _) dX6_next_148 ?_
      refine R_mem eM42 ?_
      refine R_aload_n X 1 dX6_next_151 rfl rfl ?_
      refine R_getR X (j := 8) 3 209 lc_206 rfl inX6 (by decide) rfl rfl (by decide) rfl rfl wf_X6_19 dX6_next_152 ?_
      refine R_iload X 0 dX6_next_155 rfl ?_
      refine R_iconst X dX6_next_157 ?_
      obtain ⟨hq43, hf⟩ := zgrd hf
      obtain ⟨M44, eM44, hf⟩ := zlt_some hf
      refine R_zast X lc_209 hq43 (Or.inr rfl) dX6_next_158 ?_
      refine R_mem eM44 ?_
      refine R_iload X 0 dX6_next_159 rfl ?_
      exact R_iret X hr hk0 dX6_next_161 hf
  unfold f_X6_next at hf
  refine (?_ : WW p l e (zrm 3 69) s m args below meth c D cas ad (zA ad) 6 0 0 (MQ below (zQi D cas ad r M') args s 0 0 (zA ad)) 0 [(0, .ref (ad 206)), (1, .ref (ad k1)), (2, .int (zI v2)), (3, .int (zI v3))] [] M)
  refine R_aload_n X 1 dX6_next_0 rfl rfl ?_
  have hp1 : k1 + 10 < zN ∧ lay (k1 + 10) = (0, 8) := pt_7_6 _ hk1.1 hk1.2
  refine R_getR X (j := 6) 10 (k1 + 10) hk1 rfl inX7 (by decide) rfl rfl (by decide) rfl rfl wf_X6_77 dX6_next_1 ?_
  refine R_iload_n X 3 dX6_next_4 rfl rfl ?_
  refine R_iload_n X 2 dX6_next_5 rfl rfl ?_
  obtain ⟨r2, M3, hc4, hf⟩ := zbnd_some hf
  refine R_callVi X (av := [.int (zI v3), .int (zI v2)]) (rest := []) (c_X8_isAt l D cas ad hi hp1 hc4) zy_X8_isAt hp1 rfl rfl wm_X6_81 rfl rfl ⟨Nat.le_of_ble_eq_true rfl, Nat.le_of_ble_eq_true rfl⟩ ⟨Nat.le_refl _, Nat.le_refl _⟩ (Nat.le_of_ble_eq_true rfl) dX6_next_6 ?_
  obtain ⟨hq5, hf⟩ := zgrd hf
  refine R_if_eq X 46 hq5 dX6_next_9 (by decide) (fun c30 => ?_) (fun c30 => ?_)
  · have hf := zthen hf c30
    refine R_aload_n X 1 dX6_next_46 rfl rfl ?_
    have hp6 : k1 + 3 < zN ∧ lay (k1 + 3) = (0, 2) := pt_7_5 _ hk1.1 hk1.2
    refine R_getR X (j := 5) 3 (k1 + 3) hk1 rfl inX7 (by decide) rfl rfl (by decide) rfl rfl wf_X6_90 dX6_next_47 ?_
    have hp7 : k1 + 9 < zN ∧ lay (k1 + 9) = (1, 128) := pt_2_6 _ hp6.1 hp6.2
    refine R_getR X (j := 6) 6 (k1 + 9) hp6 rfl inX2 (by decide) rfl rfl (by decide) rfl rfl wf_X6_94 dX6_next_50 ?_
    refine R_iload_n X 3 dX6_next_53 rfl rfl ?_
    refine R_iload_n X 2 dX6_next_54 rfl rfl ?_
    obtain ⟨r8, M9, hc10, hf⟩ := zbnd_some hf
    refine R_callNi X (av := [.int (zI v3), .int (zI v2)]) (rest := [.ref (ad (k1 + 9))]) (c_X9_cell l D cas ad hi hc10) zy_X9_cell wn_X6_33 rfl rfl ⟨Nat.le_of_ble_eq_true rfl, Nat.le_of_ble_eq_true rfl⟩ ⟨Nat.le_refl _, Nat.le_refl _⟩ (Nat.le_of_ble_eq_true rfl) dX6_next_55 ?_
    obtain ⟨hq11, hf⟩ := zgrd hf
    refine R_iald X hp7 hq11 dX6_next_58 ?_
    obtain ⟨x12, ex12, hf⟩ := zlt_some hf
    refine R_istoreX X (lv' := [(4, .int (zI x12)), (0, .ref (ad 206)), (1, .ref (ad k1)), (2, .int (zI v2)), (3, .int (zI v3))]) ex12 dX6_next_59 (by decide) rfl ?_
    refine R_aload_n X 1 dX6_next_61 rfl rfl ?_
    refine R_getR X (j := 7) 2 208 lc_206 rfl inX6 (by decide) rfl rfl (by decide) rfl rfl wf_X6_15 dX6_next_62 ?_
    refine R_iload_n X 4 dX6_next_65 rfl rfl ?_
    obtain ⟨hq13, hf⟩ := zgrd hf
    refine R_zald X lc_208 hq13 dX6_next_66 ?_
    obtain ⟨hq14, hf⟩ := zgrd hf
    refine R_if_ne X 113 hq14 dX6_next_67 (by decide) (fun c22 => ?_) (fun c22 => ?_)
    · have hf := zelse hf c22
      exact R_sub [1, 2, 3, 4] rfl (hB113 v2 v3 M9 hf)
    · have hf := zthen hf c22
      refine R_iload X 0 dX6_next_70 rfl ?_
      refine R_bipush X dX6_next_72 (by decide +kernel) ?_
      obtain ⟨hq15, hf⟩ := zgrd hf
      refine R_icmp_eq X 113 ⟨hq15, (by decide)⟩ dX6_next_74 (by decide) (fun c21 => ?_) (fun c21 => ?_)
      · have hf := zthen hf c21
        exact R_sub [1, 2, 3, 4] rfl (hB113 v2 v3 M9 hf)
      · have hf := zelse hf c21
        refine R_iload X 0 dX6_next_77 rfl ?_
        refine R_iload_n X 4 dX6_next_79 rfl rfl ?_
        obtain ⟨hq16, hf⟩ := zgrd hf
        refine R_icmp_eq X 113 ⟨hq15, hq16⟩ dX6_next_80 (by decide) (fun c20 => ?_) (fun c20 => ?_)
        · have hf := zthen hf c20
          exact R_sub [1, 2, 3, 4] rfl (hB113 v2 v3 M9 hf)
        · have hf := zelse hf c20
          refine R_aload_n X 1 dX6_next_83 rfl rfl ?_
          refine R_dup X dX6_next_84 rfl ?_
          refine R_getI X (j := 0) lc_206 rfl inX6 (by decide) rfl rfl rfl wf_X6_57 dX6_next_85 ?_
          refine R_iconst X dX6_next_88 ?_
          refine R_iadd X dX6_next_89 ?_
          obtain ⟨M17, eM17, hf⟩ := zlt_some hf
          refine R_put X (j := 0) lc_206 rfl inX6 tyX6_ok nmX6 (by decide) rfl rfl rfl wf_X6_57 rfl (by decide +kernel) (z_nI _) (z_fI _) dX6_next_90 ?_
          refine R_mem eM17 ?_
          refine R_aload_n X 1 dX6_next_93 rfl rfl ?_
          refine R_dup X dX6_next_94 rfl ?_
          refine R_getI X (j := 2) lc_206 rfl inX6 (by decide) rfl rfl rfl wf_X6_64 dX6_next_95 ?_
          refine R_iconst X dX6_next_98 ?_
          refine R_iadd X dX6_next_99 ?_
          obtain ⟨M18, eM18, hf⟩ := zlt_some hf
          refine R_put X (j := 2) lc_206 rfl inX6 tyX6_ok nmX6 (by decide) rfl rfl rfl wf_X6_64 rfl (by decide +kernel) (z_nI _) (z_fI _) dX6_next_100 ?_
          refine R_mem eM18 ?_
          refine R_aload_n X 1 dX6_next_103 rfl rfl ?_
          refine R_getR X (j := 7) 2 208 lc_206 rfl inX6 (by decide) rfl rfl (by decide) rfl rfl wf_X6_15 dX6_next_104 ?_
          refine R_iload_n X 4 dX6_next_107 rfl rfl ?_
          refine R_iconst X dX6_next_108 ?_
          obtain ⟨M19, eM19, hf⟩ := zlt_some hf
          refine R_zast X lc_208 hq13 (Or.inr rfl) dX6_next_109 ?_
          refine R_mem eM19 ?_
          refine R_iload X 0 dX6_next_110 rfl ?_
          exact R_iret X hr hk0 dX6_next_112 hf
  · have hf := zelse hf c30
    refine R_aload_n X 0 dX6_next_12 rfl rfl ?_
    refine R_dup X dX6_next_13 rfl ?_
    refine R_getI X (j := 0) lc_206 rfl inX6 (by decide) rfl rfl rfl wf_X6_57 dX6_next_14 ?_
    refine R_iconst X dX6_next_17 ?_
    refine R_iadd X dX6_next_18 ?_
    obtain ⟨M23, eM23, hf⟩ := zlt_some hf
    refine R_put X (j := 0) lc_206 rfl inX6 tyX6_ok nmX6 (by decide) rfl rfl rfl wf_X6_57 rfl (by decide +kernel) (z_nI _) (z_fI _) dX6_next_19 ?_
    refine R_mem eM23 ?_
    refine R_aload_n X 0 dX6_next_22 rfl rfl ?_
    refine R_dup X dX6_next_23 rfl ?_
    refine R_getI X (j := 1) lc_206 rfl inX6 (by decide) rfl rfl rfl wf_X6_61 dX6_next_24 ?_
    refine R_iconst X dX6_next_27 ?_
    refine R_iadd X dX6_next_28 ?_
    obtain ⟨M24, eM24, hf⟩ := zlt_some hf
    refine R_put X (j := 1) lc_206 rfl inX6 tyX6_ok nmX6 (by decide) rfl rfl rfl wf_X6_61 rfl (by decide +kernel) (z_nI _) (z_fI _) dX6_next_29 ?_
    refine R_mem eM24 ?_
    refine R_aload_n X 1 dX6_next_32 rfl rfl ?_
    refine R_getR X (j := 6) 10 (k1 + 10) hk1 rfl inX7 (by decide) rfl rfl (by decide) rfl rfl wf_X6_77 dX6_next_33 ?_
    have hp25 : k1 + 11 < zN ∧ lay (k1 + 11) = (1, 128) := pt_8_0 _ hp1.1 hp1.2
    refine R_getR X (j := 0) 1 (k1 + 11) hp1 rfl inX8 (by decide) rfl rfl (by decide) rfl rfl wf_X6_87 dX6_next_36 ?_
    refine R_iload_n X 3 dX6_next_39 rfl rfl ?_
    refine R_iload_n X 2 dX6_next_40 rfl rfl ?_
    obtain ⟨r26, M27, hc28, hf⟩ := zbnd_some hf
    refine R_callNi X (av := [.int (zI v3), .int (zI v2)]) (rest := [.ref (ad (k1 + 11))]) (c_X9_cell l D cas ad hi hc28) zy_X9_cell wn_X6_33 rfl rfl ⟨Nat.le_of_ble_eq_true rfl, Nat.le_of_ble_eq_true rfl⟩ ⟨Nat.le_refl _, Nat.le_refl _⟩ (Nat.le_of_ble_eq_true rfl) dX6_next_41 ?_
    obtain ⟨hq29, hf⟩ := zgrd hf
    refine R_iald X hp25 hq29 dX6_next_44 ?_
    exact R_iret X hr hk0 dX6_next_45 hf
theorem dX6_find_0 : decode cX6_find 0 = .ok (.aload_n 1, 1) := by decide +kernel
theorem dX6_find_1 : decode cX6_find 1 = .ok (.getfield 22, 3) := by decide +kernel
theorem dX6_find_4 : decode cX6_find 4 = .ok (.getfield 28, 3) := by decide +kernel
theorem dX6_find_7 : decode cX6_find 7 = .ok (.iload_n 2, 1) := by decide +kernel
theorem dX6_find_8 : decode cX6_find 8 = .ok (.iload_n 3, 1) := by decide +kernel
theorem dX6_find_9 : decode cX6_find 9 = .ok (.invokestatic 33, 3) := by decide +kernel
theorem dX6_find_12 : decode cX6_find 12 = .ok (.iaload, 1) := by decide +kernel
theorem dX6_find_13 : decode cX6_find 13 = .ok (.istore 4, 2) := by decide +kernel
theorem dX6_find_15 : decode cX6_find 15 = .ok (.aload_n 1, 1) := by decide +kernel
theorem dX6_find_16 : decode cX6_find 16 = .ok (.getfield 37, 3) := by decide +kernel
theorem dX6_find_19 : decode cX6_find 19 = .ok (.getfield 41, 3) := by decide +kernel
theorem dX6_find_22 : decode cX6_find 22 = .ok (.iload_n 3, 1) := by decide +kernel
theorem dX6_find_23 : decode cX6_find 23 = .ok (.iaload, 1) := by decide +kernel
theorem dX6_find_24 : decode cX6_find 24 = .ok (.istore 5, 2) := by decide +kernel
theorem dX6_find_26 : decode cX6_find 26 = .ok (.aload_n 0, 1) := by decide +kernel
theorem dX6_find_27 : decode cX6_find 27 = .ok (.iload 4, 2) := by decide +kernel
theorem dX6_find_29 : decode cX6_find 29 = .ok (.invokevirtual 46, 3) := by decide +kernel
theorem dX6_find_32 : decode cX6_find 32 = .ok (.iconst 0, 1) := by decide +kernel
theorem dX6_find_33 : decode cX6_find 33 = .ok (.istore 6, 2) := by decide +kernel
theorem dX6_find_35 : decode cX6_find 35 = .ok (.iload 6, 2) := by decide +kernel
theorem dX6_find_37 : decode cX6_find 37 = .ok (.sipush 137, 3) := by decide +kernel
theorem dX6_find_40 : decode cX6_find 40 = .ok (.if_icmp .ge 32, 3) := by decide +kernel
theorem dX6_find_43 : decode cX6_find 43 = .ok (.iload 4, 2) := by decide +kernel
theorem dX6_find_45 : decode cX6_find 45 = .ok (.iload 5, 2) := by decide +kernel
theorem dX6_find_47 : decode cX6_find 47 = .ok (.if_icmp .eq 25, 3) := by decide +kernel
theorem dX6_find_50 : decode cX6_find 50 = .ok (.aload_n 0, 1) := by decide +kernel
theorem dX6_find_51 : decode cX6_find 51 = .ok (.aload_n 1, 1) := by decide +kernel
theorem dX6_find_52 : decode cX6_find 52 = .ok (.iload_n 3, 1) := by decide +kernel
theorem dX6_find_53 : decode cX6_find 53 = .ok (.iload 4, 2) := by decide +kernel
theorem dX6_find_55 : decode cX6_find 55 = .ok (.invokevirtual 50, 3) := by decide +kernel
theorem dX6_find_58 : decode cX6_find 58 = .ok (.istore 4, 2) := by decide +kernel
theorem dX6_find_60 : decode cX6_find 60 = .ok (.aload_n 0, 1) := by decide +kernel
theorem dX6_find_61 : decode cX6_find 61 = .ok (.iload 4, 2) := by decide +kernel
theorem dX6_find_63 : decode cX6_find 63 = .ok (.invokevirtual 54, 3) := by decide +kernel
theorem dX6_find_66 : decode cX6_find 66 = .ok (.iinc 6 1, 3) := by decide +kernel
theorem dX6_find_69 : decode cX6_find 69 = .ok (.goto (-34), 3) := by decide +kernel
theorem dX6_find_72 : decode cX6_find 72 = .ok (.return_, 1) := by decide +kernel
set_option maxRecDepth 100000 in
set_option maxHeartbeats 4000000 in
theorem c_X6_find (l : Launch) (D : va_G) (cas : Nat → ClassId) (ad : Nat → Nat) (hi : zInj ad) {k1 : Nat} {v2 : Int} {v3 : Int} (hk1 : k1 < zN ∧ lay k1 = (0, 7)) {r : Int} {M M' : Mem} (hf : f_X6_find k1 v2 v3 M = some (r, M')) : zMv l D cas ad yX6_find cX6_find 7 4 94 [.ref (ad 206), .ref (ad k1), .int (zI v2), .int (zI v3)] M M' := by
  refine zbody (by decide) (Nat.le_of_ble_eq_true rfl) hi ?_
  intro p e s m args below meth c X hr hk0
  have X : zX p s m args c cX6_find "ShardTrails$Route" 7 D cas ad (zA ad) := X
  have hB72 : ∀ (M : Mem), f_X6_find_b72 k1 M = some (r, M') → WW p l e (zrm 4 94) s m args below meth c D cas ad (zA ad) 7 0 0 (MQ below (zQv D cas ad M') args s 0 0 (zA ad)) 72 [] [] M := by
    intro M hf
    unfold f_X6_find_b72 at hf
    exact R_vret X hr hk0 dX6_find_72 hf
  have hB35 : ∀ (n : Nat) (v3 v4 v5 v6 : Int) (M : Mem), f_X6_find_b35 k1 n v3 v4 v5 v6 M = some (r, M') → WW p l e (zrm 4 94) s m args below meth c D cas ad (zA ad) 7 0 0 (MQ below (zQv D cas ad M') args s 0 0 (zA ad)) 35 [(0, .ref (ad 206)), (1, .ref (ad k1)), (3, .int (zI v3)), (4, .int (zI v4)), (5, .int (zI v5)), (6, .int (zI v6))] [] M := by
    intro n
    induction n with
    | zero => intro v3 v4 v5 v6 M hf; exact absurd hf (by unfold f_X6_find_b35; simp)
    | succ n ih =>
      intro v3 v4 v5 v6 M hf
      unfold f_X6_find_b35 at hf
      refine R_iload X 5 dX6_find_35 rfl ?_
      refine R_sipush X dX6_find_37 (by decide +kernel) ?_
      obtain ⟨hq15, hf⟩ := zgrd hf
      refine R_icmp_ge X 72 ⟨hq15, (by decide)⟩ dX6_find_40 (by decide) (fun c25 => ?_) (fun c25 => ?_)
      · have hf := zthen hf c25
        exact R_sub [] rfl (hB72 M hf)
      · have hf := zelse hf c25
        refine R_iload X 3 dX6_find_43 rfl ?_
        refine R_iload X 4 dX6_find_45 rfl ?_
        obtain ⟨hq16, hf⟩ := zgrd hf
        obtain ⟨hq17, hf⟩ := zgrd hf
        refine R_icmp_eq X 72 ⟨hq16, hq17⟩ dX6_find_47 (by decide) (fun c24 => ?_) (fun c24 => ?_)
        · have hf := zthen hf c24
          exact R_sub [] rfl (hB72 M hf)
        · have hf := zelse hf c24
          refine R_aload_n X 0 dX6_find_50 rfl rfl ?_
          refine R_aload_n X 1 dX6_find_51 rfl rfl ?_
          refine R_iload_n X 2 dX6_find_52 rfl rfl ?_
          refine R_iload X 3 dX6_find_53 rfl ?_
          obtain ⟨r18, M19, hc20, hf⟩ := zbnd_some hf
          refine R_callVi X (av := [.ref (ad k1), .int (zI v3), .int (zI v4)]) (rest := []) (c_X6_next l D cas ad hi hk1 hc20) zy_X6_next lc_206 rfl rfl wm_X6_50 rfl rfl ⟨Nat.le_of_ble_eq_true rfl, Nat.le_of_ble_eq_true rfl⟩ ⟨Nat.le_refl _, Nat.le_refl _⟩ (Nat.le_of_ble_eq_true rfl) dX6_find_55 ?_
          refine R_istore X (lv' := [(4, .int (zI r18)), (0, .ref (ad 206)), (1, .ref (ad k1)), (3, .int (zI v3)), (5, .int (zI v5)), (6, .int (zI v6))]) dX6_find_58 (by decide) rfl ?_
          refine R_aload_n X 1 dX6_find_60 rfl rfl ?_
          refine R_iload X 0 dX6_find_61 rfl ?_
          obtain ⟨r21, M22, hc23, hf⟩ := zbnd_some hf
          refine R_callVv X (av := [.int (zI r18)]) (rest := []) (c_X6_put l D cas ad hi hc23) zy_X6_put lc_206 rfl rfl wm_X6_54 rfl rfl ⟨Nat.le_of_ble_eq_true rfl, Nat.le_of_ble_eq_true rfl⟩ ⟨Nat.le_refl _, Nat.le_refl _⟩ (Nat.le_of_ble_eq_true rfl) dX6_find_63 ?_
          refine R_iinc X (lv' := [(6, .int (zI (v6 + 1))), (4, .int (zI r18)), (0, .ref (ad 206)), (1, .ref (ad k1)), (3, .int (zI v3)), (5, .int (zI v5))]) 5 dX6_find_66 rfl (by decide) rfl ?_
          refine R_goto X 35 dX6_find_69 (by decide) ?_
          exact R_sub [2, 3, 4, 1, 5, 0] rfl (ih v3 r18 v5 (v6 + 1) M22 hf)
  unfold f_X6_find at hf
  refine (?_ : WW p l e (zrm 4 94) s m args below meth c D cas ad (zA ad) 7 0 0 (MQ below (zQv D cas ad M') args s 0 0 (zA ad)) 0 [(0, .ref (ad 206)), (1, .ref (ad k1)), (2, .int (zI v2)), (3, .int (zI v3))] [] M)
  refine R_aload_n X 1 dX6_find_0 rfl rfl ?_
  have hp1 : k1 + 21 < zN ∧ lay (k1 + 21) = (0, 4) := pt_7_9 _ hk1.1 hk1.2
  refine R_getR X (j := 9) 21 (k1 + 21) hk1 rfl inX7 (by decide) rfl rfl (by decide) rfl rfl wf_X6_22 dX6_find_1 ?_
  have hp2 : k1 + 27 < zN ∧ lay (k1 + 27) = (1, 96) := pt_4_6 _ hp1.1 hp1.2
  refine R_getR X (j := 6) 6 (k1 + 27) hp1 rfl inX4 (by decide) rfl rfl (by decide) rfl rfl wf_X6_28 dX6_find_4 ?_
  refine R_iload_n X 2 dX6_find_7 rfl rfl ?_
  refine R_iload_n X 3 dX6_find_8 rfl rfl ?_
  obtain ⟨r3, M4, hc5, hf⟩ := zbnd_some hf
  refine R_callNi X (av := [.int (zI v2), .int (zI v3)]) (rest := [.ref (ad (k1 + 27))]) (c_X9_cell l D cas ad hi hc5) zy_X9_cell wn_X6_33 rfl rfl ⟨Nat.le_of_ble_eq_true rfl, Nat.le_of_ble_eq_true rfl⟩ ⟨Nat.le_refl _, Nat.le_refl _⟩ (Nat.le_of_ble_eq_true rfl) dX6_find_9 ?_
  obtain ⟨hq6, hf⟩ := zgrd hf
  refine R_iald X hp2 hq6 dX6_find_12 ?_
  obtain ⟨x7, ex7, hf⟩ := zlt_some hf
  refine R_istoreX X (lv' := [(4, .int (zI x7)), (0, .ref (ad 206)), (1, .ref (ad k1)), (2, .int (zI v2)), (3, .int (zI v3))]) ex7 dX6_find_13 (by decide) rfl ?_
  refine R_aload_n X 2 dX6_find_15 rfl rfl ?_
  have hp8 : k1 + 13 < zN ∧ lay (k1 + 13) = (0, 0) := pt_7_7 _ hk1.1 hk1.2
  refine R_getR X (j := 7) 13 (k1 + 13) hk1 rfl inX7 (by decide) rfl rfl (by decide) rfl rfl wf_X6_37 dX6_find_16 ?_
  have hp9 : k1 + 14 < zN ∧ lay (k1 + 14) = (1, 16) := pt_0_0 _ hp8.1 hp8.2
  refine R_getR X (j := 0) 1 (k1 + 14) hp8 rfl inX0 (by decide) rfl rfl (by decide) rfl rfl wf_X6_41 dX6_find_19 ?_
  refine R_iload_n X 4 dX6_find_22 rfl rfl ?_
  obtain ⟨hq10, hf⟩ := zgrd hf
  refine R_iald X hp9 hq10 dX6_find_23 ?_
  obtain ⟨x11, ex11, hf⟩ := zlt_some hf
  refine R_istoreX X (lv' := [(5, .int (zI x11)), (4, .int (zI x7)), (0, .ref (ad 206)), (1, .ref (ad k1)), (2, .int (zI v2)), (3, .int (zI v3))]) ex11 dX6_find_24 (by decide) rfl ?_
  refine R_aload_n X 2 dX6_find_26 rfl rfl ?_
  refine R_iload X 1 dX6_find_27 rfl ?_
  obtain ⟨r12, M13, hc14, hf⟩ := zbnd_some hf
  refine R_callVv X (av := [.int (zI x7)]) (rest := []) (c_X6_begin l D cas ad hi hc14) zy_X6_begin lc_206 rfl rfl wm_X6_46 rfl rfl ⟨Nat.le_of_ble_eq_true rfl, Nat.le_of_ble_eq_true rfl⟩ ⟨Nat.le_refl _, Nat.le_refl _⟩ (Nat.le_of_ble_eq_true rfl) dX6_find_29 ?_
  refine R_iconst X dX6_find_32 ?_
  refine R_istore X (lv' := [(6, .int (zI 0)), (5, .int (zI x11)), (4, .int (zI x7)), (0, .ref (ad 206)), (1, .ref (ad k1)), (2, .int (zI v2)), (3, .int (zI v3))]) dX6_find_33 (by decide) rfl ?_
  exact R_sub [3, 4, 6, 2, 1, 0] rfl (hB35 100000 v3 x7 x11 0 M13 hf)
theorem dX9_reach_0 : decode cX9_reach 0 = .ok (.aload_n 0, 1) := by decide +kernel
theorem dX9_reach_1 : decode cX9_reach 1 = .ok (.iload_n 1, 1) := by decide +kernel
theorem dX9_reach_2 : decode cX9_reach 2 = .ok (.invokevirtual 155, 3) := by decide +kernel
theorem dX9_reach_5 : decode cX9_reach 5 = .ok (.ifCond .eq 10, 3) := by decide +kernel
theorem dX9_reach_8 : decode cX9_reach 8 = .ok (.iload_n 2, 1) := by decide +kernel
theorem dX9_reach_9 : decode cX9_reach 9 = .ok (.invokestatic 158, 3) := by decide +kernel
theorem dX9_reach_12 : decode cX9_reach 12 = .ok (.ifCond .ne 5, 3) := by decide +kernel
theorem dX9_reach_15 : decode cX9_reach 15 = .ok (.iconst (-1), 1) := by decide +kernel
theorem dX9_reach_16 : decode cX9_reach 16 = .ok (.ireturn, 1) := by decide +kernel
theorem dX9_reach_17 : decode cX9_reach 17 = .ok (.aload_n 0, 1) := by decide +kernel
theorem dX9_reach_18 : decode cX9_reach 18 = .ok (.getfield 32, 3) := by decide +kernel
theorem dX9_reach_21 : decode cX9_reach 21 = .ok (.aload_n 0, 1) := by decide +kernel
theorem dX9_reach_22 : decode cX9_reach 22 = .ok (.getfield 12, 3) := by decide +kernel
theorem dX9_reach_25 : decode cX9_reach 25 = .ok (.iload_n 1, 1) := by decide +kernel
theorem dX9_reach_26 : decode cX9_reach 26 = .ok (.iload_n 2, 1) := by decide +kernel
theorem dX9_reach_27 : decode cX9_reach 27 = .ok (.bipush 16, 2) := by decide +kernel
theorem dX9_reach_29 : decode cX9_reach 29 = .ok (.idiv, 1) := by decide +kernel
theorem dX9_reach_30 : decode cX9_reach 30 = .ok (.invokevirtual 273, 3) := by decide +kernel
theorem dX9_reach_33 : decode cX9_reach 33 = .ok (.iload_n 3, 1) := by decide +kernel
theorem dX9_reach_34 : decode cX9_reach 34 = .ok (.tableswitch 82 0 4 #[34, 42, 50, 58, 66], 34) := by decide +kernel
theorem dX9_reach_68 : decode cX9_reach 68 = .ok (.aload_n 0, 1) := by decide +kernel
theorem dX9_reach_69 : decode cX9_reach 69 = .ok (.getfield 32, 3) := by decide +kernel
theorem dX9_reach_72 : decode cX9_reach 72 = .ok (.getfield 277, 3) := by decide +kernel
theorem dX9_reach_75 : decode cX9_reach 75 = .ok (.ireturn, 1) := by decide +kernel
theorem dX9_reach_76 : decode cX9_reach 76 = .ok (.aload_n 0, 1) := by decide +kernel
theorem dX9_reach_77 : decode cX9_reach 77 = .ok (.getfield 32, 3) := by decide +kernel
theorem dX9_reach_80 : decode cX9_reach 80 = .ok (.getfield 279, 3) := by decide +kernel
theorem dX9_reach_83 : decode cX9_reach 83 = .ok (.ireturn, 1) := by decide +kernel
theorem dX9_reach_84 : decode cX9_reach 84 = .ok (.aload_n 0, 1) := by decide +kernel
theorem dX9_reach_85 : decode cX9_reach 85 = .ok (.getfield 32, 3) := by decide +kernel
theorem dX9_reach_88 : decode cX9_reach 88 = .ok (.getfield 282, 3) := by decide +kernel
theorem dX9_reach_91 : decode cX9_reach 91 = .ok (.ireturn, 1) := by decide +kernel
theorem dX9_reach_92 : decode cX9_reach 92 = .ok (.aload_n 0, 1) := by decide +kernel
theorem dX9_reach_93 : decode cX9_reach 93 = .ok (.getfield 32, 3) := by decide +kernel
theorem dX9_reach_96 : decode cX9_reach 96 = .ok (.getfield 285, 3) := by decide +kernel
theorem dX9_reach_99 : decode cX9_reach 99 = .ok (.ireturn, 1) := by decide +kernel
theorem dX9_reach_100 : decode cX9_reach 100 = .ok (.aload_n 0, 1) := by decide +kernel
theorem dX9_reach_101 : decode cX9_reach 101 = .ok (.getfield 32, 3) := by decide +kernel
theorem dX9_reach_104 : decode cX9_reach 104 = .ok (.getfield 288, 3) := by decide +kernel
theorem dX9_reach_107 : decode cX9_reach 107 = .ok (.ifCond .eq 7, 3) := by decide +kernel
theorem dX9_reach_110 : decode cX9_reach 110 = .ok (.iconst 1, 1) := by decide +kernel
theorem dX9_reach_111 : decode cX9_reach 111 = .ok (.goto 4, 3) := by decide +kernel
theorem dX9_reach_114 : decode cX9_reach 114 = .ok (.iconst 0, 1) := by decide +kernel
theorem dX9_reach_115 : decode cX9_reach 115 = .ok (.ireturn, 1) := by decide +kernel
theorem dX9_reach_116 : decode cX9_reach 116 = .ok (.bipush (-2), 2) := by decide +kernel
theorem dX9_reach_118 : decode cX9_reach 118 = .ok (.ireturn, 1) := by decide +kernel
set_option maxRecDepth 100000 in
set_option maxHeartbeats 4000000 in
theorem c_X9_reach (l : Launch) (D : va_G) (cas : Nat → ClassId) (ad : Nat → Nat) (hi : zInj ad) {v1 : Int} {v2 : Int} {v3 : Int}  {r : Int} {M M' : Mem} (hf : f_X9_reach v1 v2 v3 M = some (r, M')) : zMi l D cas ad yX9_reach cX9_reach 4 (some .int) 5 120 [.ref (ad 0), .int (zI v1), .int (zI v2), .int (zI v3)] M r M' := by
  refine zbody (by decide) (Nat.le_of_ble_eq_true rfl) hi ?_
  intro p e s m args below meth c X hr hk0
  have X : zX p s m args c cX9_reach "ShardTrails" 4 D cas ad (zA ad) := X
  have hB15 : ∀ (M : Mem), f_X9_reach_b15 M = some (r, M') → WW p l e (zrm 5 120) s m args below meth c D cas ad (zA ad) 4 0 0 (MQ below (zQi D cas ad r M') args s 0 0 (zA ad)) 15 [] [] M := by
    intro M hf
    unfold f_X9_reach_b15 at hf
    refine R_iconst X dX9_reach_15 ?_
    exact R_iret X hr hk0 dX9_reach_16 hf
  have hB115 : ∀ (t1 : Int) (M : Mem), f_X9_reach_b115 t1 M = some (r, M') → WW p l e (zrm 5 120) s m args below meth c D cas ad (zA ad) 4 0 0 (MQ below (zQi D cas ad r M') args s 0 0 (zA ad)) 115 [] [.int (zI t1)] M := by
    intro t1 M hf
    unfold f_X9_reach_b115 at hf
    exact R_iret X hr hk0 dX9_reach_115 hf
  unfold f_X9_reach at hf
  refine (?_ : WW p l e (zrm 5 120) s m args below meth c D cas ad (zA ad) 4 0 0 (MQ below (zQi D cas ad r M') args s 0 0 (zA ad)) 0 [(0, .ref (ad 0)), (1, .int (zI v1)), (2, .int (zI v2)), (3, .int (zI v3))] [] M)
  refine R_aload_n X 0 dX9_reach_0 rfl rfl ?_
  refine R_iload_n X 1 dX9_reach_1 rfl rfl ?_
  obtain ⟨r1, M2, hc3, hf⟩ := zbnd_some hf
  refine R_callVi X (av := [.int (zI v1)]) (rest := []) (c_X9_isReader l D cas ad hi hc3) zy_X9_isReader lc_0 rfl rfl wm_X9_155 rfl rfl ⟨Nat.le_of_ble_eq_true rfl, Nat.le_of_ble_eq_true rfl⟩ ⟨Nat.le_refl _, Nat.le_refl _⟩ (Nat.le_of_ble_eq_true rfl) dX9_reach_2 ?_
  obtain ⟨hq4, hf⟩ := zgrd hf
  refine R_if_eq X 15 hq4 dX9_reach_5 (by decide) (fun c22 => ?_) (fun c22 => ?_)
  · have hf := zthen hf c22
    exact R_sub [] rfl (hB15 M2 hf)
  · have hf := zelse hf c22
    refine R_iload_n X 2 dX9_reach_8 rfl rfl ?_
    obtain ⟨r5, M6, hc7, hf⟩ := zbnd_some hf
    refine R_callSi X (av := [.int (zI v2)]) (rest := []) (c_X9_isKey l D cas ad hi hc7) zy_X9_isKey wm_X9_158 rfl rfl ⟨Nat.le_of_ble_eq_true rfl, Nat.le_of_ble_eq_true rfl⟩ ⟨Nat.le_refl _, Nat.le_refl _⟩ (Nat.le_of_ble_eq_true rfl) dX9_reach_9 ?_
    obtain ⟨hq8, hf⟩ := zgrd hf
    refine R_if_ne X 17 hq8 dX9_reach_12 (by decide) (fun c21 => ?_) (fun c21 => ?_)
    · have hf := zelse hf c21
      refine R_aload_n X 0 dX9_reach_17 rfl rfl ?_
      refine R_getR X (j := 4) 206 206 lc_0 rfl inX9 (by decide) rfl rfl (by decide) rfl rfl wf_X9_32 dX9_reach_18 ?_
      refine R_aload_n X 0 dX9_reach_21 rfl rfl ?_
      refine R_getR X (j := 0) 1 1 lc_0 rfl inX9 (by decide) rfl rfl (by decide) rfl rfl wf_X9_12 dX9_reach_22 ?_
      refine R_iload_n X 1 dX9_reach_25 rfl rfl ?_
      refine R_iload_n X 2 dX9_reach_26 rfl rfl ?_
      refine R_bipush X dX9_reach_27 (by decide +kernel) ?_
      obtain ⟨hq9, hf⟩ := zgrd hf
      refine R_idiv X ⟨⟨hq9, (by decide)⟩, (by decide)⟩ dX9_reach_29 ?_
      obtain ⟨r10, M11, hc12, hf⟩ := zbnd_some hf
      refine R_callVv X (av := [.ref (ad 1), .int (zI v1), .int (zI (v2.tdiv 16))]) (rest := []) (c_X6_find l D cas ad hi lc_1 hc12) zy_X6_find lc_206 rfl rfl wm_X9_273 rfl rfl ⟨Nat.le_of_ble_eq_true rfl, Nat.le_of_ble_eq_true rfl⟩ ⟨Nat.le_refl _, Nat.le_refl _⟩ (Nat.le_of_ble_eq_true rfl) dX9_reach_30 ?_
      refine R_iload_n X 3 dX9_reach_33 rfl rfl ?_
      obtain ⟨hq13, hf⟩ := zgrd hf
      by_cases c14 : v3 = 0
      · have hf := zthen hf c14
        refine R_tableIn X (o := 34) 68 c14 dX9_reach_34 (by decide) (by decide) (by decide) (by decide +kernel) (by decide) ?_
        refine R_aload_n X 0 dX9_reach_68 rfl rfl ?_
        refine R_getR X (j := 4) 206 206 lc_0 rfl inX9 (by decide) rfl rfl (by decide) rfl rfl wf_X9_32 dX9_reach_69 ?_
        refine R_getI X (j := 0) lc_206 rfl inX6 (by decide) rfl rfl rfl wf_X9_277 dX9_reach_72 ?_
        exact R_iret X hr hk0 dX9_reach_75 hf
      have hf := zelse hf c14
      by_cases c15 : v3 = 1
      · have hf := zthen hf c15
        refine R_tableIn X (o := 42) 76 c15 dX9_reach_34 (by decide) (by decide) (by decide) (by decide +kernel) (by decide) ?_
        refine R_aload_n X 0 dX9_reach_76 rfl rfl ?_
        refine R_getR X (j := 4) 206 206 lc_0 rfl inX9 (by decide) rfl rfl (by decide) rfl rfl wf_X9_32 dX9_reach_77 ?_
        refine R_getI X (j := 1) lc_206 rfl inX6 (by decide) rfl rfl rfl wf_X9_279 dX9_reach_80 ?_
        exact R_iret X hr hk0 dX9_reach_83 hf
      have hf := zelse hf c15
      by_cases c16 : v3 = 2
      · have hf := zthen hf c16
        refine R_tableIn X (o := 50) 84 c16 dX9_reach_34 (by decide) (by decide) (by decide) (by decide +kernel) (by decide) ?_
        refine R_aload_n X 0 dX9_reach_84 rfl rfl ?_
        refine R_getR X (j := 4) 206 206 lc_0 rfl inX9 (by decide) rfl rfl (by decide) rfl rfl wf_X9_32 dX9_reach_85 ?_
        refine R_getI X (j := 2) lc_206 rfl inX6 (by decide) rfl rfl rfl wf_X9_282 dX9_reach_88 ?_
        exact R_iret X hr hk0 dX9_reach_91 hf
      have hf := zelse hf c16
      by_cases c17 : v3 = 3
      · have hf := zthen hf c17
        refine R_tableIn X (o := 58) 92 c17 dX9_reach_34 (by decide) (by decide) (by decide) (by decide +kernel) (by decide) ?_
        refine R_aload_n X 0 dX9_reach_92 rfl rfl ?_
        refine R_getR X (j := 4) 206 206 lc_0 rfl inX9 (by decide) rfl rfl (by decide) rfl rfl wf_X9_32 dX9_reach_93 ?_
        refine R_getI X (j := 3) lc_206 rfl inX6 (by decide) rfl rfl rfl wf_X9_285 dX9_reach_96 ?_
        exact R_iret X hr hk0 dX9_reach_99 hf
      have hf := zelse hf c17
      by_cases c20 : v3 = 4
      · have hf := zthen hf c20
        refine R_tableIn X (o := 66) 100 c20 dX9_reach_34 (by decide) (by decide) (by decide) (by decide +kernel) (by decide) ?_
        refine R_aload_n X 0 dX9_reach_100 rfl rfl ?_
        refine R_getR X (j := 4) 206 206 lc_0 rfl inX9 (by decide) rfl rfl (by decide) rfl rfl wf_X9_32 dX9_reach_101 ?_
        refine R_getI X (j := 4) lc_206 rfl inX6 (by decide) rfl rfl rfl wf_X9_288 dX9_reach_104 ?_
        obtain ⟨hq18, hf⟩ := zgrd hf
        refine R_if_eq X 114 hq18 dX9_reach_107 (by decide) (fun c19 => ?_) (fun c19 => ?_)
        · have hf := zthen hf c19
          refine R_iconst X dX9_reach_114 ?_
          exact R_sub [] rfl (hB115 0 M11 hf)
        · have hf := zelse hf c19
          refine R_iconst X dX9_reach_110 ?_
          refine R_goto X 115 dX9_reach_111 (by decide) ?_
          exact R_sub [] rfl (hB115 1 M11 hf)
      have hf := zelse hf c20
      refine R_tableOut X 116 hq13 dX9_reach_34 (by omega) (by decide) ?_
      refine R_bipush X dX9_reach_116 (by decide +kernel) ?_
      exact R_iret X hr hk0 dX9_reach_118 hf
    · have hf := zthen hf c21
      exact R_sub [] rfl (hB15 M6 hf)
theorem dX9_reader_0 : decode cX9_reader 0 = .ok (.aload_n 0, 1) := by decide +kernel
theorem dX9_reader_1 : decode cX9_reader 1 = .ok (.iload_n 1, 1) := by decide +kernel
theorem dX9_reader_2 : decode cX9_reader 2 = .ok (.invokevirtual 155, 3) := by decide +kernel
theorem dX9_reader_5 : decode cX9_reader 5 = .ok (.ifCond .ne 5, 3) := by decide +kernel
theorem dX9_reader_8 : decode cX9_reader 8 = .ok (.iconst (-1), 1) := by decide +kernel
theorem dX9_reader_9 : decode cX9_reader 9 = .ok (.ireturn, 1) := by decide +kernel
theorem dX9_reader_10 : decode cX9_reader 10 = .ok (.iload_n 2, 1) := by decide +kernel
theorem dX9_reader_11 : decode cX9_reader 11 = .ok (.tableswitch 98 0 4 #[33, 46, 59, 72, 85], 33) := by decide +kernel
theorem dX9_reader_44 : decode cX9_reader 44 = .ok (.aload_n 0, 1) := by decide +kernel
theorem dX9_reader_45 : decode cX9_reader 45 = .ok (.getfield 12, 3) := by decide +kernel
theorem dX9_reader_48 : decode cX9_reader 48 = .ok (.getfield 99, 3) := by decide +kernel
theorem dX9_reader_51 : decode cX9_reader 51 = .ok (.getfield 255, 3) := by decide +kernel
theorem dX9_reader_54 : decode cX9_reader 54 = .ok (.iload_n 1, 1) := by decide +kernel
theorem dX9_reader_55 : decode cX9_reader 55 = .ok (.iaload, 1) := by decide +kernel
theorem dX9_reader_56 : decode cX9_reader 56 = .ok (.ireturn, 1) := by decide +kernel
theorem dX9_reader_57 : decode cX9_reader 57 = .ok (.aload_n 0, 1) := by decide +kernel
theorem dX9_reader_58 : decode cX9_reader 58 = .ok (.getfield 12, 3) := by decide +kernel
theorem dX9_reader_61 : decode cX9_reader 61 = .ok (.getfield 99, 3) := by decide +kernel
theorem dX9_reader_64 : decode cX9_reader 64 = .ok (.getfield 258, 3) := by decide +kernel
theorem dX9_reader_67 : decode cX9_reader 67 = .ok (.iload_n 1, 1) := by decide +kernel
theorem dX9_reader_68 : decode cX9_reader 68 = .ok (.iaload, 1) := by decide +kernel
theorem dX9_reader_69 : decode cX9_reader 69 = .ok (.ireturn, 1) := by decide +kernel
theorem dX9_reader_70 : decode cX9_reader 70 = .ok (.aload_n 0, 1) := by decide +kernel
theorem dX9_reader_71 : decode cX9_reader 71 = .ok (.getfield 12, 3) := by decide +kernel
theorem dX9_reader_74 : decode cX9_reader 74 = .ok (.getfield 99, 3) := by decide +kernel
theorem dX9_reader_77 : decode cX9_reader 77 = .ok (.getfield 261, 3) := by decide +kernel
theorem dX9_reader_80 : decode cX9_reader 80 = .ok (.iload_n 1, 1) := by decide +kernel
theorem dX9_reader_81 : decode cX9_reader 81 = .ok (.iaload, 1) := by decide +kernel
theorem dX9_reader_82 : decode cX9_reader 82 = .ok (.ireturn, 1) := by decide +kernel
theorem dX9_reader_83 : decode cX9_reader 83 = .ok (.aload_n 0, 1) := by decide +kernel
theorem dX9_reader_84 : decode cX9_reader 84 = .ok (.getfield 12, 3) := by decide +kernel
theorem dX9_reader_87 : decode cX9_reader 87 = .ok (.getfield 99, 3) := by decide +kernel
theorem dX9_reader_90 : decode cX9_reader 90 = .ok (.getfield 264, 3) := by decide +kernel
theorem dX9_reader_93 : decode cX9_reader 93 = .ok (.iload_n 1, 1) := by decide +kernel
theorem dX9_reader_94 : decode cX9_reader 94 = .ok (.iaload, 1) := by decide +kernel
theorem dX9_reader_95 : decode cX9_reader 95 = .ok (.ireturn, 1) := by decide +kernel
theorem dX9_reader_96 : decode cX9_reader 96 = .ok (.aload_n 0, 1) := by decide +kernel
theorem dX9_reader_97 : decode cX9_reader 97 = .ok (.getfield 12, 3) := by decide +kernel
theorem dX9_reader_100 : decode cX9_reader 100 = .ok (.getfield 99, 3) := by decide +kernel
theorem dX9_reader_103 : decode cX9_reader 103 = .ok (.getfield 267, 3) := by decide +kernel
theorem dX9_reader_106 : decode cX9_reader 106 = .ok (.iload_n 1, 1) := by decide +kernel
theorem dX9_reader_107 : decode cX9_reader 107 = .ok (.iaload, 1) := by decide +kernel
theorem dX9_reader_108 : decode cX9_reader 108 = .ok (.ireturn, 1) := by decide +kernel
theorem dX9_reader_109 : decode cX9_reader 109 = .ok (.bipush (-2), 2) := by decide +kernel
theorem dX9_reader_111 : decode cX9_reader 111 = .ok (.ireturn, 1) := by decide +kernel
set_option maxRecDepth 100000 in
set_option maxHeartbeats 4000000 in
theorem c_X9_reader (l : Launch) (D : va_G) (cas : Nat → ClassId) (ad : Nat → Nat) (hi : zInj ad) {v1 : Int} {v2 : Int}  {r : Int} {M M' : Mem} (hf : f_X9_reader v1 v2 M = some (r, M')) : zMi l D cas ad yX9_reader cX9_reader 3 (some .int) 2 43 [.ref (ad 0), .int (zI v1), .int (zI v2)] M r M' := by
  refine zbody (by decide) (Nat.le_of_ble_eq_true rfl) hi ?_
  intro p e s m args below meth c X hr hk0
  have X : zX p s m args c cX9_reader "ShardTrails" 3 D cas ad (zA ad) := X
  unfold f_X9_reader at hf
  refine (?_ : WW p l e (zrm 2 43) s m args below meth c D cas ad (zA ad) 3 0 0 (MQ below (zQi D cas ad r M') args s 0 0 (zA ad)) 0 [(0, .ref (ad 0)), (1, .int (zI v1)), (2, .int (zI v2))] [] M)
  refine R_aload_n X 0 dX9_reader_0 rfl rfl ?_
  refine R_iload_n X 1 dX9_reader_1 rfl rfl ?_
  obtain ⟨r1, M2, hc3, hf⟩ := zbnd_some hf
  refine R_callVi X (av := [.int (zI v1)]) (rest := []) (c_X9_isReader l D cas ad hi hc3) zy_X9_isReader lc_0 rfl rfl wm_X9_155 rfl rfl ⟨Nat.le_of_ble_eq_true rfl, Nat.le_of_ble_eq_true rfl⟩ ⟨Nat.le_refl _, Nat.le_refl _⟩ (Nat.le_of_ble_eq_true rfl) dX9_reader_2 ?_
  obtain ⟨hq4, hf⟩ := zgrd hf
  refine R_if_ne X 10 hq4 dX9_reader_5 (by decide) (fun c16 => ?_) (fun c16 => ?_)
  · have hf := zelse hf c16
    refine R_iload_n X 2 dX9_reader_10 rfl rfl ?_
    obtain ⟨hq5, hf⟩ := zgrd hf
    by_cases c7 : v2 = 0
    · have hf := zthen hf c7
      refine R_tableIn X (o := 33) 44 c7 dX9_reader_11 (by decide) (by decide) (by decide) (by decide +kernel) (by decide) ?_
      refine R_aload_n X 0 dX9_reader_44 rfl rfl ?_
      refine R_getR X (j := 0) 1 1 lc_0 rfl inX9 (by decide) rfl rfl (by decide) rfl rfl wf_X9_12 dX9_reader_45 ?_
      refine R_getR X (j := 9) 21 22 lc_1 rfl inX7 (by decide) rfl rfl (by decide) rfl rfl wf_X9_99 dX9_reader_48 ?_
      refine R_getR X (j := 1) 1 23 lc_22 rfl inX4 (by decide) rfl rfl (by decide) rfl rfl wf_X9_255 dX9_reader_51 ?_
      refine R_iload_n X 1 dX9_reader_54 rfl rfl ?_
      obtain ⟨hq6, hf⟩ := zgrd hf
      refine R_iald X lc_23 hq6 dX9_reader_55 ?_
      exact R_iret X hr hk0 dX9_reader_56 hf
    have hf := zelse hf c7
    by_cases c9 : v2 = 1
    · have hf := zthen hf c9
      refine R_tableIn X (o := 46) 57 c9 dX9_reader_11 (by decide) (by decide) (by decide) (by decide +kernel) (by decide) ?_
      refine R_aload_n X 0 dX9_reader_57 rfl rfl ?_
      refine R_getR X (j := 0) 1 1 lc_0 rfl inX9 (by decide) rfl rfl (by decide) rfl rfl wf_X9_12 dX9_reader_58 ?_
      refine R_getR X (j := 9) 21 22 lc_1 rfl inX7 (by decide) rfl rfl (by decide) rfl rfl wf_X9_99 dX9_reader_61 ?_
      refine R_getR X (j := 2) 2 24 lc_22 rfl inX4 (by decide) rfl rfl (by decide) rfl rfl wf_X9_258 dX9_reader_64 ?_
      refine R_iload_n X 1 dX9_reader_67 rfl rfl ?_
      obtain ⟨hq8, hf⟩ := zgrd hf
      refine R_iald X lc_24 hq8 dX9_reader_68 ?_
      exact R_iret X hr hk0 dX9_reader_69 hf
    have hf := zelse hf c9
    by_cases c11 : v2 = 2
    · have hf := zthen hf c11
      refine R_tableIn X (o := 59) 70 c11 dX9_reader_11 (by decide) (by decide) (by decide) (by decide +kernel) (by decide) ?_
      refine R_aload_n X 0 dX9_reader_70 rfl rfl ?_
      refine R_getR X (j := 0) 1 1 lc_0 rfl inX9 (by decide) rfl rfl (by decide) rfl rfl wf_X9_12 dX9_reader_71 ?_
      refine R_getR X (j := 9) 21 22 lc_1 rfl inX7 (by decide) rfl rfl (by decide) rfl rfl wf_X9_99 dX9_reader_74 ?_
      refine R_getR X (j := 3) 3 25 lc_22 rfl inX4 (by decide) rfl rfl (by decide) rfl rfl wf_X9_261 dX9_reader_77 ?_
      refine R_iload_n X 1 dX9_reader_80 rfl rfl ?_
      obtain ⟨hq10, hf⟩ := zgrd hf
      refine R_iald X lc_25 hq10 dX9_reader_81 ?_
      exact R_iret X hr hk0 dX9_reader_82 hf
    have hf := zelse hf c11
    by_cases c13 : v2 = 3
    · have hf := zthen hf c13
      refine R_tableIn X (o := 72) 83 c13 dX9_reader_11 (by decide) (by decide) (by decide) (by decide +kernel) (by decide) ?_
      refine R_aload_n X 0 dX9_reader_83 rfl rfl ?_
      refine R_getR X (j := 0) 1 1 lc_0 rfl inX9 (by decide) rfl rfl (by decide) rfl rfl wf_X9_12 dX9_reader_84 ?_
      refine R_getR X (j := 9) 21 22 lc_1 rfl inX7 (by decide) rfl rfl (by decide) rfl rfl wf_X9_99 dX9_reader_87 ?_
      refine R_getR X (j := 4) 4 26 lc_22 rfl inX4 (by decide) rfl rfl (by decide) rfl rfl wf_X9_264 dX9_reader_90 ?_
      refine R_iload_n X 1 dX9_reader_93 rfl rfl ?_
      obtain ⟨hq12, hf⟩ := zgrd hf
      refine R_iald X lc_26 hq12 dX9_reader_94 ?_
      exact R_iret X hr hk0 dX9_reader_95 hf
    have hf := zelse hf c13
    by_cases c15 : v2 = 4
    · have hf := zthen hf c15
      refine R_tableIn X (o := 85) 96 c15 dX9_reader_11 (by decide) (by decide) (by decide) (by decide +kernel) (by decide) ?_
      refine R_aload_n X 0 dX9_reader_96 rfl rfl ?_
      refine R_getR X (j := 0) 1 1 lc_0 rfl inX9 (by decide) rfl rfl (by decide) rfl rfl wf_X9_12 dX9_reader_97 ?_
      refine R_getR X (j := 9) 21 22 lc_1 rfl inX7 (by decide) rfl rfl (by decide) rfl rfl wf_X9_99 dX9_reader_100 ?_
      refine R_getR X (j := 5) 5 27 lc_22 rfl inX4 (by decide) rfl rfl (by decide) rfl rfl wf_X9_267 dX9_reader_103 ?_
      refine R_iload_n X 1 dX9_reader_106 rfl rfl ?_
      obtain ⟨hq14, hf⟩ := zgrd hf
      refine R_iald X lc_27 hq14 dX9_reader_107 ?_
      exact R_iret X hr hk0 dX9_reader_108 hf
    have hf := zelse hf c15
    refine R_tableOut X 109 hq5 dX9_reader_11 (by omega) (by decide) ?_
    refine R_bipush X dX9_reader_109 (by decide +kernel) ?_
    exact R_iret X hr hk0 dX9_reader_111 hf
  · have hf := zthen hf c16
    refine R_iconst X dX9_reader_8 ?_
    exact R_iret X hr hk0 dX9_reader_9 hf
theorem dX9_remembered_0 : decode cX9_remembered 0 = .ok (.aload_n 0, 1) := by decide +kernel
theorem dX9_remembered_1 : decode cX9_remembered 1 = .ok (.iload_n 1, 1) := by decide +kernel
theorem dX9_remembered_2 : decode cX9_remembered 2 = .ok (.invokevirtual 155, 3) := by decide +kernel
theorem dX9_remembered_5 : decode cX9_remembered 5 = .ok (.ifCond .eq 10, 3) := by decide +kernel
theorem dX9_remembered_8 : decode cX9_remembered 8 = .ok (.iload_n 2, 1) := by decide +kernel
theorem dX9_remembered_9 : decode cX9_remembered 9 = .ok (.invokestatic 127, 3) := by decide +kernel
theorem dX9_remembered_12 : decode cX9_remembered 12 = .ok (.ifCond .ne 5, 3) := by decide +kernel
theorem dX9_remembered_15 : decode cX9_remembered 15 = .ok (.iconst (-1), 1) := by decide +kernel
theorem dX9_remembered_16 : decode cX9_remembered 16 = .ok (.ireturn, 1) := by decide +kernel
theorem dX9_remembered_17 : decode cX9_remembered 17 = .ok (.aload_n 0, 1) := by decide +kernel
theorem dX9_remembered_18 : decode cX9_remembered 18 = .ok (.getfield 12, 3) := by decide +kernel
theorem dX9_remembered_21 : decode cX9_remembered 21 = .ok (.getfield 99, 3) := by decide +kernel
theorem dX9_remembered_24 : decode cX9_remembered 24 = .ok (.getfield 270, 3) := by decide +kernel
theorem dX9_remembered_27 : decode cX9_remembered 27 = .ok (.iload_n 1, 1) := by decide +kernel
theorem dX9_remembered_28 : decode cX9_remembered 28 = .ok (.iload_n 2, 1) := by decide +kernel
theorem dX9_remembered_29 : decode cX9_remembered 29 = .ok (.invokestatic 223, 3) := by decide +kernel
theorem dX9_remembered_32 : decode cX9_remembered 32 = .ok (.iaload, 1) := by decide +kernel
theorem dX9_remembered_33 : decode cX9_remembered 33 = .ok (.ireturn, 1) := by decide +kernel
set_option maxRecDepth 100000 in
set_option maxHeartbeats 4000000 in
theorem c_X9_remembered (l : Launch) (D : va_G) (cas : Nat → ClassId) (ad : Nat → Nat) (hi : zInj ad) {v1 : Int} {v2 : Int}  {r : Int} {M M' : Mem} (hf : f_X9_remembered v1 v2 M = some (r, M')) : zMi l D cas ad yX9_remembered cX9_remembered 3 (some .int) 2 43 [.ref (ad 0), .int (zI v1), .int (zI v2)] M r M' := by
  refine zbody (by decide) (Nat.le_of_ble_eq_true rfl) hi ?_
  intro p e s m args below meth c X hr hk0
  have X : zX p s m args c cX9_remembered "ShardTrails" 3 D cas ad (zA ad) := X
  have hB15 : ∀ (M : Mem), f_X9_remembered_b15 M = some (r, M') → WW p l e (zrm 2 43) s m args below meth c D cas ad (zA ad) 3 0 0 (MQ below (zQi D cas ad r M') args s 0 0 (zA ad)) 15 [] [] M := by
    intro M hf
    unfold f_X9_remembered_b15 at hf
    refine R_iconst X dX9_remembered_15 ?_
    exact R_iret X hr hk0 dX9_remembered_16 hf
  unfold f_X9_remembered at hf
  refine (?_ : WW p l e (zrm 2 43) s m args below meth c D cas ad (zA ad) 3 0 0 (MQ below (zQi D cas ad r M') args s 0 0 (zA ad)) 0 [(0, .ref (ad 0)), (1, .int (zI v1)), (2, .int (zI v2))] [] M)
  refine R_aload_n X 0 dX9_remembered_0 rfl rfl ?_
  refine R_iload_n X 1 dX9_remembered_1 rfl rfl ?_
  obtain ⟨r1, M2, hc3, hf⟩ := zbnd_some hf
  refine R_callVi X (av := [.int (zI v1)]) (rest := []) (c_X9_isReader l D cas ad hi hc3) zy_X9_isReader lc_0 rfl rfl wm_X9_155 rfl rfl ⟨Nat.le_of_ble_eq_true rfl, Nat.le_of_ble_eq_true rfl⟩ ⟨Nat.le_refl _, Nat.le_refl _⟩ (Nat.le_of_ble_eq_true rfl) dX9_remembered_2 ?_
  obtain ⟨hq4, hf⟩ := zgrd hf
  refine R_if_eq X 15 hq4 dX9_remembered_5 (by decide) (fun c14 => ?_) (fun c14 => ?_)
  · have hf := zthen hf c14
    exact R_sub [] rfl (hB15 M2 hf)
  · have hf := zelse hf c14
    refine R_iload_n X 2 dX9_remembered_8 rfl rfl ?_
    obtain ⟨r5, M6, hc7, hf⟩ := zbnd_some hf
    refine R_callSi X (av := [.int (zI v2)]) (rest := []) (c_X9_isShard l D cas ad hi hc7) zy_X9_isShard wm_X9_127 rfl rfl ⟨Nat.le_of_ble_eq_true rfl, Nat.le_of_ble_eq_true rfl⟩ ⟨Nat.le_refl _, Nat.le_refl _⟩ (Nat.le_of_ble_eq_true rfl) dX9_remembered_9 ?_
    obtain ⟨hq8, hf⟩ := zgrd hf
    refine R_if_ne X 17 hq8 dX9_remembered_12 (by decide) (fun c13 => ?_) (fun c13 => ?_)
    · have hf := zelse hf c13
      refine R_aload_n X 0 dX9_remembered_17 rfl rfl ?_
      refine R_getR X (j := 0) 1 1 lc_0 rfl inX9 (by decide) rfl rfl (by decide) rfl rfl wf_X9_12 dX9_remembered_18 ?_
      refine R_getR X (j := 9) 21 22 lc_1 rfl inX7 (by decide) rfl rfl (by decide) rfl rfl wf_X9_99 dX9_remembered_21 ?_
      refine R_getR X (j := 6) 6 28 lc_22 rfl inX4 (by decide) rfl rfl (by decide) rfl rfl wf_X9_270 dX9_remembered_24 ?_
      refine R_iload_n X 1 dX9_remembered_27 rfl rfl ?_
      refine R_iload_n X 2 dX9_remembered_28 rfl rfl ?_
      obtain ⟨r9, M10, hc11, hf⟩ := zbnd_some hf
      refine R_callSi X (av := [.int (zI v1), .int (zI v2)]) (rest := [.ref (ad 28)]) (c_X9_cell l D cas ad hi hc11) zy_X9_cell wm_X9_223 rfl rfl ⟨Nat.le_of_ble_eq_true rfl, Nat.le_of_ble_eq_true rfl⟩ ⟨Nat.le_refl _, Nat.le_refl _⟩ (Nat.le_of_ble_eq_true rfl) dX9_remembered_29 ?_
      obtain ⟨hq12, hf⟩ := zgrd hf
      refine R_iald X lc_28 hq12 dX9_remembered_32 ?_
      exact R_iret X hr hk0 dX9_remembered_33 hf
    · have hf := zthen hf c13
      exact R_sub [] rfl (hB15 M6 hf)
theorem dX0_warm_0 : decode cX0_warm 0 = .ok (.aload_n 0, 1) := by decide +kernel
theorem dX0_warm_1 : decode cX0_warm 1 = .ok (.getfield 15, 3) := by decide +kernel
theorem dX0_warm_4 : decode cX0_warm 4 = .ok (.iload_n 1, 1) := by decide +kernel
theorem dX0_warm_5 : decode cX0_warm 5 = .ok (.aload_n 0, 1) := by decide +kernel
theorem dX0_warm_6 : decode cX0_warm 6 = .ok (.getfield 15, 3) := by decide +kernel
theorem dX0_warm_9 : decode cX0_warm 9 = .ok (.iload_n 1, 1) := by decide +kernel
theorem dX0_warm_10 : decode cX0_warm 10 = .ok (.iaload, 1) := by decide +kernel
theorem dX0_warm_11 : decode cX0_warm 11 = .ok (.iload_n 2, 1) := by decide +kernel
theorem dX0_warm_12 : decode cX0_warm 12 = .ok (.iadd, 1) := by decide +kernel
theorem dX0_warm_13 : decode cX0_warm 13 = .ok (.sipush 9999, 3) := by decide +kernel
theorem dX0_warm_16 : decode cX0_warm 16 = .ok (.invokestatic 28, 3) := by decide +kernel
theorem dX0_warm_19 : decode cX0_warm 19 = .ok (.iastore, 1) := by decide +kernel
theorem dX0_warm_20 : decode cX0_warm 20 = .ok (.return_, 1) := by decide +kernel
set_option maxRecDepth 100000 in
set_option maxHeartbeats 4000000 in
theorem c_X0_warm (l : Launch) (D : va_G) (cas : Nat → ClassId) (ad : Nat → Nat) (hi : zInj ad) {k : Nat} {v1 : Int} {v2 : Int} (hk : k < zN ∧ lay k = (0, 0)) {r : Int} {M M' : Mem} (hf : f_X0_warm k v1 v2 M = some (r, M')) : zMv l D cas ad yX0_warm cX0_warm 3 1 21 [.ref (ad k), .int (zI v1), .int (zI v2)] M M' := by
  refine zbody (by decide) (Nat.le_of_ble_eq_true rfl) hi ?_
  intro p e s m args below meth c X hr hk0
  have X : zX p s m args c cX0_warm "ShardTrails$Herd" 3 D cas ad (zA ad) := X
  unfold f_X0_warm at hf
  refine (?_ : WW p l e (zrm 1 21) s m args below meth c D cas ad (zA ad) 3 0 0 (MQ below (zQv D cas ad M') args s 0 0 (zA ad)) 0 [(0, .ref (ad k)), (1, .int (zI v1)), (2, .int (zI v2))] [] M)
  refine R_aload_n X 0 dX0_warm_0 rfl rfl ?_
  have hp1 : k + 2 < zN ∧ lay (k + 2) = (1, 16) := pt_0_1 _ hk.1 hk.2
  refine R_getR X (j := 1) 2 (k + 2) hk rfl inX0 (by decide) rfl rfl (by decide) rfl rfl wf_X0_15 dX0_warm_1 ?_
  refine R_iload_n X 1 dX0_warm_4 rfl rfl ?_
  refine R_aload_n X 0 dX0_warm_5 rfl rfl ?_
  refine R_getR X (j := 1) 2 (k + 2) hk rfl inX0 (by decide) rfl rfl (by decide) rfl rfl wf_X0_15 dX0_warm_6 ?_
  refine R_iload_n X 1 dX0_warm_9 rfl rfl ?_
  obtain ⟨hq2, hf⟩ := zgrd hf
  refine R_iald X hp1 hq2 dX0_warm_10 ?_
  refine R_iload_n X 2 dX0_warm_11 rfl rfl ?_
  refine R_iadd X dX0_warm_12 ?_
  refine R_sipush X dX0_warm_13 (by decide +kernel) ?_
  obtain ⟨hq3, hf⟩ := zgrd hf
  refine R_mmin X ⟨hq3, (by decide)⟩ wm_X0_28 (by decide) (Nat.le_of_ble_eq_true rfl) ⟨Nat.le_refl _, Nat.le_refl _⟩ dX0_warm_16 zm_min ?_
  obtain ⟨M4, eM4, hf⟩ := zlt_some hf
  refine R_iast X hp1 hq2 dX0_warm_19 ?_
  refine R_mem eM4 ?_
  exact R_vret X hr hk0 dX0_warm_20 hf
theorem dX4_note_0 : decode cX4_note 0 = .ok (.aload_n 0, 1) := by decide +kernel
theorem dX4_note_1 : decode cX4_note 1 = .ok (.getfield 15, 3) := by decide +kernel
theorem dX4_note_4 : decode cX4_note 4 = .ok (.iload_n 1, 1) := by decide +kernel
theorem dX4_note_5 : decode cX4_note 5 = .ok (.dup2, 1) := by decide +kernel
theorem dX4_note_6 : decode cX4_note 6 = .ok (.iaload, 1) := by decide +kernel
theorem dX4_note_7 : decode cX4_note 7 = .ok (.iconst 1, 1) := by decide +kernel
theorem dX4_note_8 : decode cX4_note 8 = .ok (.iadd, 1) := by decide +kernel
theorem dX4_note_9 : decode cX4_note 9 = .ok (.iastore, 1) := by decide +kernel
theorem dX4_note_10 : decode cX4_note 10 = .ok (.aload_n 0, 1) := by decide +kernel
theorem dX4_note_11 : decode cX4_note 11 = .ok (.getfield 18, 3) := by decide +kernel
theorem dX4_note_14 : decode cX4_note 14 = .ok (.iload_n 1, 1) := by decide +kernel
theorem dX4_note_15 : decode cX4_note 15 = .ok (.dup2, 1) := by decide +kernel
theorem dX4_note_16 : decode cX4_note 16 = .ok (.iaload, 1) := by decide +kernel
theorem dX4_note_17 : decode cX4_note 17 = .ok (.aload 4, 2) := by decide +kernel
theorem dX4_note_19 : decode cX4_note 19 = .ok (.getfield 42, 3) := by decide +kernel
theorem dX4_note_22 : decode cX4_note 22 = .ok (.iadd, 1) := by decide +kernel
theorem dX4_note_23 : decode cX4_note 23 = .ok (.iastore, 1) := by decide +kernel
theorem dX4_note_24 : decode cX4_note 24 = .ok (.aload 4, 2) := by decide +kernel
theorem dX4_note_26 : decode cX4_note 26 = .ok (.getfield 46, 3) := by decide +kernel
theorem dX4_note_29 : decode cX4_note 29 = .ok (.ifCond .eq 13, 3) := by decide +kernel
theorem dX4_note_32 : decode cX4_note 32 = .ok (.aload_n 0, 1) := by decide +kernel
theorem dX4_note_33 : decode cX4_note 33 = .ok (.getfield 21, 3) := by decide +kernel
theorem dX4_note_36 : decode cX4_note 36 = .ok (.iload_n 1, 1) := by decide +kernel
theorem dX4_note_37 : decode cX4_note 37 = .ok (.dup2, 1) := by decide +kernel
theorem dX4_note_38 : decode cX4_note 38 = .ok (.iaload, 1) := by decide +kernel
theorem dX4_note_39 : decode cX4_note 39 = .ok (.iconst 1, 1) := by decide +kernel
theorem dX4_note_40 : decode cX4_note 40 = .ok (.iadd, 1) := by decide +kernel
theorem dX4_note_41 : decode cX4_note 41 = .ok (.iastore, 1) := by decide +kernel
theorem dX4_note_42 : decode cX4_note 42 = .ok (.aload_n 0, 1) := by decide +kernel
theorem dX4_note_43 : decode cX4_note 43 = .ok (.getfield 24, 3) := by decide +kernel
theorem dX4_note_46 : decode cX4_note 46 = .ok (.iload_n 1, 1) := by decide +kernel
theorem dX4_note_47 : decode cX4_note 47 = .ok (.aload_n 0, 1) := by decide +kernel
theorem dX4_note_48 : decode cX4_note 48 = .ok (.getfield 24, 3) := by decide +kernel
theorem dX4_note_51 : decode cX4_note 51 = .ok (.iload_n 1, 1) := by decide +kernel
theorem dX4_note_52 : decode cX4_note 52 = .ok (.iaload, 1) := by decide +kernel
theorem dX4_note_53 : decode cX4_note 53 = .ok (.aload 4, 2) := by decide +kernel
theorem dX4_note_55 : decode cX4_note 55 = .ok (.getfield 42, 3) := by decide +kernel
theorem dX4_note_58 : decode cX4_note 58 = .ok (.invokestatic 50, 3) := by decide +kernel
theorem dX4_note_61 : decode cX4_note 61 = .ok (.iastore, 1) := by decide +kernel
theorem dX4_note_62 : decode cX4_note 62 = .ok (.aload_n 0, 1) := by decide +kernel
theorem dX4_note_63 : decode cX4_note 63 = .ok (.getfield 27, 3) := by decide +kernel
theorem dX4_note_66 : decode cX4_note 66 = .ok (.iload_n 1, 1) := by decide +kernel
theorem dX4_note_67 : decode cX4_note 67 = .ok (.iload_n 2, 1) := by decide +kernel
theorem dX4_note_68 : decode cX4_note 68 = .ok (.invokestatic 38, 3) := by decide +kernel
theorem dX4_note_71 : decode cX4_note 71 = .ok (.iload_n 3, 1) := by decide +kernel
theorem dX4_note_72 : decode cX4_note 72 = .ok (.iastore, 1) := by decide +kernel
theorem dX4_note_73 : decode cX4_note 73 = .ok (.return_, 1) := by decide +kernel
set_option maxRecDepth 100000 in
set_option maxHeartbeats 4000000 in
theorem c_X4_note (l : Launch) (D : va_G) (cas : Nat → ClassId) (ad : Nat → Nat) (hi : zInj ad) {k : Nat} {v1 : Int} {v2 : Int} {v3 : Int} (hk : k < zN ∧ lay k = (0, 4)) {r : Int} {M M' : Mem} (hf : f_X4_note k v1 v2 v3 M = some (r, M')) : zMv l D cas ad yX4_note cX4_note 5 1 21 [.ref (ad k), .int (zI v1), .int (zI v2), .int (zI v3), .ref (ad 206)] M M' := by
  refine zbody (by decide) (Nat.le_of_ble_eq_true rfl) hi ?_
  intro p e s m args below meth c X hr hk0
  have X : zX p s m args c cX4_note "ShardTrails$Readers" 5 D cas ad (zA ad) := X
  have hB42 : ∀ (v1 v2 v3 : Int) (M : Mem), f_X4_note_b42 k v1 v2 v3 M = some (r, M') → WW p l e (zrm 1 21) s m args below meth c D cas ad (zA ad) 5 0 0 (MQ below (zQv D cas ad M') args s 0 0 (zA ad)) 42 [(0, .ref (ad k)), (1, .int (zI v1)), (2, .int (zI v2)), (3, .int (zI v3)), (4, .ref (ad 206))] [] M := by
    intro v1 v2 v3 M hf
    unfold f_X4_note_b42 at hf
    refine R_aload_n X 0 dX4_note_42 rfl rfl ?_
    have hp10 : k + 5 < zN ∧ lay (k + 5) = (1, 6) := pt_4_5 _ hk.1 hk.2
    refine R_getR X (j := 5) 5 (k + 5) hk rfl inX4 (by decide) rfl rfl (by decide) rfl rfl wf_X4_24 dX4_note_43 ?_
    refine R_iload_n X 1 dX4_note_46 rfl rfl ?_
    refine R_aload_n X 0 dX4_note_47 rfl rfl ?_
    refine R_getR X (j := 5) 5 (k + 5) hk rfl inX4 (by decide) rfl rfl (by decide) rfl rfl wf_X4_24 dX4_note_48 ?_
    refine R_iload_n X 1 dX4_note_51 rfl rfl ?_
    obtain ⟨hq11, hf⟩ := zgrd hf
    refine R_iald X hp10 hq11 dX4_note_52 ?_
    refine R_aload X 4 dX4_note_53 rfl ?_
    refine R_getI X (j := 0) lc_206 rfl inX6 (by decide) rfl rfl rfl wf_X4_42 dX4_note_55 ?_
    obtain ⟨hq12, hf⟩ := zgrd hf
    obtain ⟨hq13, hf⟩ := zgrd hf
    refine R_mmax X ⟨hq12, hq13⟩ wm_X4_50 (by decide) (Nat.le_of_ble_eq_true rfl) ⟨Nat.le_refl _, Nat.le_refl _⟩ dX4_note_58 zm_max ?_
    obtain ⟨M14, eM14, hf⟩ := zlt_some hf
    refine R_iast X hp10 hq11 dX4_note_61 ?_
    refine R_mem eM14 ?_
    refine R_aload_n X 0 dX4_note_62 rfl rfl ?_
    have hp15 : k + 6 < zN ∧ lay (k + 6) = (1, 96) := pt_4_6 _ hk.1 hk.2
    refine R_getR X (j := 6) 6 (k + 6) hk rfl inX4 (by decide) rfl rfl (by decide) rfl rfl wf_X4_27 dX4_note_63 ?_
    refine R_iload_n X 1 dX4_note_66 rfl rfl ?_
    refine R_iload_n X 2 dX4_note_67 rfl rfl ?_
    obtain ⟨r16, M17, hc18, hf⟩ := zbnd_some hf
    refine R_callNi X (av := [.int (zI v1), .int (zI v2)]) (rest := [.ref (ad (k + 6))]) (c_X9_cell l D cas ad hi hc18) zy_X9_cell wn_X4_38 rfl rfl ⟨Nat.le_of_ble_eq_true rfl, Nat.le_of_ble_eq_true rfl⟩ ⟨Nat.le_refl _, Nat.le_refl _⟩ (Nat.le_of_ble_eq_true rfl) dX4_note_68 ?_
    refine R_iload_n X 3 dX4_note_71 rfl rfl ?_
    obtain ⟨hq19, hf⟩ := zgrd hf
    obtain ⟨M20, eM20, hf⟩ := zlt_some hf
    refine R_iast X hp15 hq19 dX4_note_72 ?_
    refine R_mem eM20 ?_
    exact R_vret X hr hk0 dX4_note_73 hf
  unfold f_X4_note at hf
  refine (?_ : WW p l e (zrm 1 21) s m args below meth c D cas ad (zA ad) 5 0 0 (MQ below (zQv D cas ad M') args s 0 0 (zA ad)) 0 [(0, .ref (ad k)), (1, .int (zI v1)), (2, .int (zI v2)), (3, .int (zI v3)), (4, .ref (ad 206))] [] M)
  refine R_aload_n X 0 dX4_note_0 rfl rfl ?_
  have hp1 : k + 2 < zN ∧ lay (k + 2) = (1, 6) := pt_4_2 _ hk.1 hk.2
  refine R_getR X (j := 2) 2 (k + 2) hk rfl inX4 (by decide) rfl rfl (by decide) rfl rfl wf_X4_15 dX4_note_1 ?_
  refine R_iload_n X 1 dX4_note_4 rfl rfl ?_
  refine R_dup2 X dX4_note_5 rfl rfl ?_
  obtain ⟨hq2, hf⟩ := zgrd hf
  refine R_iald X hp1 hq2 dX4_note_6 ?_
  refine R_iconst X dX4_note_7 ?_
  refine R_iadd X dX4_note_8 ?_
  obtain ⟨M3, eM3, hf⟩ := zlt_some hf
  refine R_iast X hp1 hq2 dX4_note_9 ?_
  refine R_mem eM3 ?_
  refine R_aload_n X 0 dX4_note_10 rfl rfl ?_
  have hp4 : k + 3 < zN ∧ lay (k + 3) = (1, 6) := pt_4_3 _ hk.1 hk.2
  refine R_getR X (j := 3) 3 (k + 3) hk rfl inX4 (by decide) rfl rfl (by decide) rfl rfl wf_X4_18 dX4_note_11 ?_
  refine R_iload_n X 1 dX4_note_14 rfl rfl ?_
  refine R_dup2 X dX4_note_15 rfl rfl ?_
  refine R_iald X hp4 hq2 dX4_note_16 ?_
  refine R_aload X 4 dX4_note_17 rfl ?_
  refine R_getI X (j := 0) lc_206 rfl inX6 (by decide) rfl rfl rfl wf_X4_42 dX4_note_19 ?_
  refine R_iadd X dX4_note_22 ?_
  obtain ⟨M5, eM5, hf⟩ := zlt_some hf
  refine R_iast X hp4 hq2 dX4_note_23 ?_
  refine R_mem eM5 ?_
  refine R_aload X 4 dX4_note_24 rfl ?_
  refine R_getI X (j := 4) lc_206 rfl inX6 (by decide) rfl rfl rfl wf_X4_46 dX4_note_26 ?_
  obtain ⟨hq6, hf⟩ := zgrd hf
  refine R_if_eq X 42 hq6 dX4_note_29 (by decide) (fun c9 => ?_) (fun c9 => ?_)
  · have hf := zthen hf c9
    exact R_sub [0, 1, 2, 3, 4] rfl (hB42 v1 v2 v3 M5 hf)
  · have hf := zelse hf c9
    refine R_aload_n X 0 dX4_note_32 rfl rfl ?_
    have hp7 : k + 4 < zN ∧ lay (k + 4) = (1, 6) := pt_4_4 _ hk.1 hk.2
    refine R_getR X (j := 4) 4 (k + 4) hk rfl inX4 (by decide) rfl rfl (by decide) rfl rfl wf_X4_21 dX4_note_33 ?_
    refine R_iload_n X 1 dX4_note_36 rfl rfl ?_
    refine R_dup2 X dX4_note_37 rfl rfl ?_
    refine R_iald X hp7 hq2 dX4_note_38 ?_
    refine R_iconst X dX4_note_39 ?_
    refine R_iadd X dX4_note_40 ?_
    obtain ⟨M8, eM8, hf⟩ := zlt_some hf
    refine R_iast X hp7 hq2 dX4_note_41 ?_
    refine R_mem eM8 ?_
    exact R_sub [0, 1, 2, 3, 4] rfl (hB42 v1 v2 v3 M8 hf)
theorem dX7_noteRequest_0 : decode cX7_noteRequest 0 = .ok (.aload_n 0, 1) := by decide +kernel
theorem dX7_noteRequest_1 : decode cX7_noteRequest 1 = .ok (.getfield 60, 3) := by decide +kernel
theorem dX7_noteRequest_4 : decode cX7_noteRequest 4 = .ok (.iload_n 1, 1) := by decide +kernel
theorem dX7_noteRequest_5 : decode cX7_noteRequest 5 = .ok (.iload_n 2, 1) := by decide +kernel
theorem dX7_noteRequest_6 : decode cX7_noteRequest 6 = .ok (.aload_n 0, 1) := by decide +kernel
theorem dX7_noteRequest_7 : decode cX7_noteRequest 7 = .ok (.getfield 46, 3) := by decide +kernel
theorem dX7_noteRequest_10 : decode cX7_noteRequest 10 = .ok (.getfield 149, 3) := by decide +kernel
theorem dX7_noteRequest_13 : decode cX7_noteRequest 13 = .ok (.iload_n 2, 1) := by decide +kernel
theorem dX7_noteRequest_14 : decode cX7_noteRequest 14 = .ok (.iaload, 1) := by decide +kernel
theorem dX7_noteRequest_15 : decode cX7_noteRequest 15 = .ok (.aload_n 3, 1) := by decide +kernel
theorem dX7_noteRequest_16 : decode cX7_noteRequest 16 = .ok (.invokevirtual 175, 3) := by decide +kernel
theorem dX7_noteRequest_19 : decode cX7_noteRequest 19 = .ok (.aload_n 0, 1) := by decide +kernel
theorem dX7_noteRequest_20 : decode cX7_noteRequest 20 = .ok (.getfield 46, 3) := by decide +kernel
theorem dX7_noteRequest_23 : decode cX7_noteRequest 23 = .ok (.iload_n 2, 1) := by decide +kernel
theorem dX7_noteRequest_24 : decode cX7_noteRequest 24 = .ok (.aload_n 0, 1) := by decide +kernel
theorem dX7_noteRequest_25 : decode cX7_noteRequest 25 = .ok (.getfield 18, 3) := by decide +kernel
theorem dX7_noteRequest_28 : decode cX7_noteRequest 28 = .ok (.iconst 5, 1) := by decide +kernel
theorem dX7_noteRequest_29 : decode cX7_noteRequest 29 = .ok (.iaload, 1) := by decide +kernel
theorem dX7_noteRequest_30 : decode cX7_noteRequest 30 = .ok (.invokevirtual 179, 3) := by decide +kernel
theorem dX7_noteRequest_33 : decode cX7_noteRequest 33 = .ok (.iconst 0, 1) := by decide +kernel
theorem dX7_noteRequest_34 : decode cX7_noteRequest 34 = .ok (.istore 4, 2) := by decide +kernel
theorem dX7_noteRequest_36 : decode cX7_noteRequest 36 = .ok (.iload 4, 2) := by decide +kernel
theorem dX7_noteRequest_38 : decode cX7_noteRequest 38 = .ok (.aload_n 0, 1) := by decide +kernel
theorem dX7_noteRequest_39 : decode cX7_noteRequest 39 = .ok (.getfield 32, 3) := by decide +kernel
theorem dX7_noteRequest_42 : decode cX7_noteRequest 42 = .ok (.getfield 119, 3) := by decide +kernel
theorem dX7_noteRequest_45 : decode cX7_noteRequest 45 = .ok (.if_icmp .ge 33, 3) := by decide +kernel
theorem dX7_noteRequest_48 : decode cX7_noteRequest 48 = .ok (.aload_n 3, 1) := by decide +kernel
theorem dX7_noteRequest_49 : decode cX7_noteRequest 49 = .ok (.getfield 182, 3) := by decide +kernel
theorem dX7_noteRequest_52 : decode cX7_noteRequest 52 = .ok (.iload 4, 2) := by decide +kernel
theorem dX7_noteRequest_54 : decode cX7_noteRequest 54 = .ok (.baload, 1) := by decide +kernel
theorem dX7_noteRequest_55 : decode cX7_noteRequest 55 = .ok (.ifCond .eq 17, 3) := by decide +kernel
theorem dX7_noteRequest_58 : decode cX7_noteRequest 58 = .ok (.aload_n 0, 1) := by decide +kernel
theorem dX7_noteRequest_59 : decode cX7_noteRequest 59 = .ok (.getfield 32, 3) := by decide +kernel
theorem dX7_noteRequest_62 : decode cX7_noteRequest 62 = .ok (.getfield 187, 3) := by decide +kernel
theorem dX7_noteRequest_65 : decode cX7_noteRequest 65 = .ok (.iload 4, 2) := by decide +kernel
theorem dX7_noteRequest_67 : decode cX7_noteRequest 67 = .ok (.dup2, 1) := by decide +kernel
theorem dX7_noteRequest_68 : decode cX7_noteRequest 68 = .ok (.iaload, 1) := by decide +kernel
theorem dX7_noteRequest_69 : decode cX7_noteRequest 69 = .ok (.iconst 1, 1) := by decide +kernel
theorem dX7_noteRequest_70 : decode cX7_noteRequest 70 = .ok (.iadd, 1) := by decide +kernel
theorem dX7_noteRequest_71 : decode cX7_noteRequest 71 = .ok (.iastore, 1) := by decide +kernel
theorem dX7_noteRequest_72 : decode cX7_noteRequest 72 = .ok (.iinc 4 1, 3) := by decide +kernel
theorem dX7_noteRequest_75 : decode cX7_noteRequest 75 = .ok (.goto (-39), 3) := by decide +kernel
theorem dX7_noteRequest_78 : decode cX7_noteRequest 78 = .ok (.return_, 1) := by decide +kernel
set_option maxRecDepth 100000 in
set_option maxHeartbeats 4000000 in
theorem c_X7_noteRequest (l : Launch) (D : va_G) (cas : Nat → ClassId) (ad : Nat → Nat) (hi : zInj ad) {k : Nat} {v1 : Int} {v2 : Int} (hk : k < zN ∧ lay k = (0, 7)) {r : Int} {M M' : Mem} (hf : f_X7_noteRequest k v1 v2 M = some (r, M')) : zMv l D cas ad yX7_noteRequest cX7_noteRequest 5 2 45 [.ref (ad k), .int (zI v1), .int (zI v2), .ref (ad 206)] M M' := by
  refine zbody (by decide) (Nat.le_of_ble_eq_true rfl) hi ?_
  intro p e s m args below meth c X hr hk0
  have X : zX p s m args c cX7_noteRequest "ShardTrails$State" 5 D cas ad (zA ad) := X
  have hB72 : ∀ (g36 : Int → Mem → Option (Int × Mem)) (hg36 : ∀ (v4 : Int) (M : Mem), g36 v4 M = some (r, M') → WW p l e (zrm 2 45) s m args below meth c D cas ad (zA ad) 5 0 0 (MQ below (zQv D cas ad M') args s 0 0 (zA ad)) 36 [(0, .ref (ad k)), (3, .ref (ad 206)), (4, .int (zI v4))] [] M) (v4 : Int) (M : Mem), f_X7_noteRequest_b72 g36 k v4 M = some (r, M') → WW p l e (zrm 2 45) s m args below meth c D cas ad (zA ad) 5 0 0 (MQ below (zQv D cas ad M') args s 0 0 (zA ad)) 72 [(0, .ref (ad k)), (3, .ref (ad 206)), (4, .int (zI v4))] [] M := by
    intro g36 hg36 v4 M hf
    unfold f_X7_noteRequest_b72 at hf
    refine R_iinc X (lv' := [(4, .int (zI (v4 + 1))), (0, .ref (ad k)), (3, .ref (ad 206))]) 2 dX7_noteRequest_72 rfl (by decide) rfl ?_
    refine R_goto X 36 dX7_noteRequest_75 (by decide) ?_
    exact R_sub [1, 2, 0] rfl (hg36 (v4 + 1) M hf)
  have hB36 : ∀ (n : Nat) (v4 : Int) (M : Mem), f_X7_noteRequest_b36 k n v4 M = some (r, M') → WW p l e (zrm 2 45) s m args below meth c D cas ad (zA ad) 5 0 0 (MQ below (zQv D cas ad M') args s 0 0 (zA ad)) 36 [(0, .ref (ad k)), (3, .ref (ad 206)), (4, .int (zI v4))] [] M := by
    intro n
    induction n with
    | zero => intro v4 M hf; exact absurd hf (by unfold f_X7_noteRequest_b36; simp)
    | succ n ih =>
      intro v4 M hf
      unfold f_X7_noteRequest_b36 at hf
      refine R_iload X 2 dX7_noteRequest_36 rfl ?_
      refine R_aload_n X 0 dX7_noteRequest_38 rfl rfl ?_
      have hp12 : k + 3 < zN ∧ lay (k + 3) = (0, 2) := pt_7_5 _ hk.1 hk.2
      refine R_getR X (j := 5) 3 (k + 3) hk rfl inX7 (by decide) rfl rfl (by decide) rfl rfl wf_X7_32 dX7_noteRequest_39 ?_
      refine R_getI X (j := 0) hp12 rfl inX2 (by decide) rfl rfl rfl wf_X7_119 dX7_noteRequest_42 ?_
      obtain ⟨hq13, hf⟩ := zgrd hf
      obtain ⟨hq14, hf⟩ := zgrd hf
      refine R_icmp_ge X 78 ⟨hq13, hq14⟩ dX7_noteRequest_45 (by decide) (fun c20 => ?_) (fun c20 => ?_)
      · have hf := zthen hf c20
        exact R_vret X hr hk0 dX7_noteRequest_78 hf
      · have hf := zelse hf c20
        refine R_aload_n X 1 dX7_noteRequest_48 rfl rfl ?_
        refine R_getR X (j := 8) 3 209 lc_206 rfl inX6 (by decide) rfl rfl (by decide) rfl rfl wf_X7_182 dX7_noteRequest_49 ?_
        refine R_iload X 2 dX7_noteRequest_52 rfl ?_
        obtain ⟨hq15, hf⟩ := zgrd hf
        refine R_zald X lc_209 hq15 dX7_noteRequest_54 ?_
        obtain ⟨hq16, hf⟩ := zgrd hf
        refine R_if_eq X 72 hq16 dX7_noteRequest_55 (by decide) (fun c19 => ?_) (fun c19 => ?_)
        · have hf := zthen hf c19
          exact R_sub [0, 1, 2] rfl (hB72 (f_X7_noteRequest_b36 k n) ih v4 M hf)
        · have hf := zelse hf c19
          refine R_aload_n X 0 dX7_noteRequest_58 rfl rfl ?_
          refine R_getR X (j := 5) 3 (k + 3) hk rfl inX7 (by decide) rfl rfl (by decide) rfl rfl wf_X7_32 dX7_noteRequest_59 ?_
          have hp17 : k + 7 < zN ∧ lay (k + 7) = (1, 8) := pt_2_4 _ hp12.1 hp12.2
          refine R_getR X (j := 4) 4 (k + 7) hp12 rfl inX2 (by decide) rfl rfl (by decide) rfl rfl wf_X7_187 dX7_noteRequest_62 ?_
          refine R_iload X 2 dX7_noteRequest_65 rfl ?_
          refine R_dup2 X dX7_noteRequest_67 rfl rfl ?_
          refine R_iald X hp17 hq15 dX7_noteRequest_68 ?_
          refine R_iconst X dX7_noteRequest_69 ?_
          refine R_iadd X dX7_noteRequest_70 ?_
          obtain ⟨M18, eM18, hf⟩ := zlt_some hf
          refine R_iast X hp17 hq15 dX7_noteRequest_71 ?_
          refine R_mem eM18 ?_
          exact R_sub [0, 1, 2] rfl (hB72 (f_X7_noteRequest_b36 k n) ih v4 M18 hf)
  unfold f_X7_noteRequest at hf
  refine (?_ : WW p l e (zrm 2 45) s m args below meth c D cas ad (zA ad) 5 0 0 (MQ below (zQv D cas ad M') args s 0 0 (zA ad)) 0 [(0, .ref (ad k)), (1, .int (zI v1)), (2, .int (zI v2)), (3, .ref (ad 206))] [] M)
  refine R_aload_n X 0 dX7_noteRequest_0 rfl rfl ?_
  have hp1 : k + 21 < zN ∧ lay (k + 21) = (0, 4) := pt_7_9 _ hk.1 hk.2
  refine R_getR X (j := 9) 21 (k + 21) hk rfl inX7 (by decide) rfl rfl (by decide) rfl rfl wf_X7_60 dX7_noteRequest_1 ?_
  refine R_iload_n X 1 dX7_noteRequest_4 rfl rfl ?_
  refine R_iload_n X 2 dX7_noteRequest_5 rfl rfl ?_
  refine R_aload_n X 0 dX7_noteRequest_6 rfl rfl ?_
  have hp2 : k + 13 < zN ∧ lay (k + 13) = (0, 0) := pt_7_7 _ hk.1 hk.2
  refine R_getR X (j := 7) 13 (k + 13) hk rfl inX7 (by decide) rfl rfl (by decide) rfl rfl wf_X7_46 dX7_noteRequest_7 ?_
  have hp3 : k + 14 < zN ∧ lay (k + 14) = (1, 16) := pt_0_0 _ hp2.1 hp2.2
  refine R_getR X (j := 0) 1 (k + 14) hp2 rfl inX0 (by decide) rfl rfl (by decide) rfl rfl wf_X7_149 dX7_noteRequest_10 ?_
  refine R_iload_n X 2 dX7_noteRequest_13 rfl rfl ?_
  obtain ⟨hq4, hf⟩ := zgrd hf
  refine R_iald X hp3 hq4 dX7_noteRequest_14 ?_
  refine R_aload_n X 3 dX7_noteRequest_15 rfl rfl ?_
  obtain ⟨r5, M6, hc7, hf⟩ := zbnd_some hf
  refine R_callVv X (av := [.int (zI v1), .int (zI v2), .int (zI (M (k + 14) v2.toNat)), .ref (ad 206)]) (rest := []) (c_X4_note l D cas ad hi hp1 hc7) zy_X4_note hp1 rfl rfl wm_X7_175 rfl rfl ⟨Nat.le_of_ble_eq_true rfl, Nat.le_of_ble_eq_true rfl⟩ ⟨Nat.le_refl _, Nat.le_refl _⟩ (Nat.le_of_ble_eq_true rfl) dX7_noteRequest_16 ?_
  refine R_aload_n X 0 dX7_noteRequest_19 rfl rfl ?_
  refine R_getR X (j := 7) 13 (k + 13) hk rfl inX7 (by decide) rfl rfl (by decide) rfl rfl wf_X7_46 dX7_noteRequest_20 ?_
  refine R_iload_n X 2 dX7_noteRequest_23 rfl rfl ?_
  refine R_aload_n X 0 dX7_noteRequest_24 rfl rfl ?_
  have hp8 : k + 1 < zN ∧ lay (k + 1) = (1, 6) := pt_7_3 _ hk.1 hk.2
  refine R_getR X (j := 3) 1 (k + 1) hk rfl inX7 (by decide) rfl rfl (by decide) rfl rfl wf_X7_18 dX7_noteRequest_25 ?_
  refine R_iconst X dX7_noteRequest_28 ?_
  refine R_iald X hp8 (by decide) dX7_noteRequest_29 ?_
  obtain ⟨r9, M10, hc11, hf⟩ := zbnd_some hf
  refine R_callVv X (av := [.int (zI v2), .int (zI (M6 (k + 1) 5))]) (rest := []) (c_X0_warm l D cas ad hi hp2 hc11) zy_X0_warm hp2 rfl rfl wm_X7_179 rfl rfl ⟨Nat.le_of_ble_eq_true rfl, Nat.le_of_ble_eq_true rfl⟩ ⟨Nat.le_refl _, Nat.le_refl _⟩ (Nat.le_of_ble_eq_true rfl) dX7_noteRequest_30 ?_
  refine R_iconst X dX7_noteRequest_33 ?_
  refine R_istore X (lv' := [(4, .int (zI 0)), (0, .ref (ad k)), (1, .int (zI v1)), (2, .int (zI v2)), (3, .ref (ad 206))]) dX7_noteRequest_34 (by decide) rfl ?_
  exact R_sub [1, 4, 0] rfl (hB36 100000 0 M10 hf)
theorem dX9_serve_0 : decode cX9_serve 0 = .ok (.iload_n 2, 1) := by decide +kernel
theorem dX9_serve_1 : decode cX9_serve 1 = .ok (.bipush 16, 2) := by decide +kernel
theorem dX9_serve_3 : decode cX9_serve 3 = .ok (.idiv, 1) := by decide +kernel
theorem dX9_serve_4 : decode cX9_serve 4 = .ok (.istore 4, 2) := by decide +kernel
theorem dX9_serve_6 : decode cX9_serve 6 = .ok (.aload_n 0, 1) := by decide +kernel
theorem dX9_serve_7 : decode cX9_serve 7 = .ok (.getfield 32, 3) := by decide +kernel
theorem dX9_serve_10 : decode cX9_serve 10 = .ok (.aload_n 0, 1) := by decide +kernel
theorem dX9_serve_11 : decode cX9_serve 11 = .ok (.getfield 12, 3) := by decide +kernel
theorem dX9_serve_14 : decode cX9_serve 14 = .ok (.iload_n 1, 1) := by decide +kernel
theorem dX9_serve_15 : decode cX9_serve 15 = .ok (.iload 4, 2) := by decide +kernel
theorem dX9_serve_17 : decode cX9_serve 17 = .ok (.invokevirtual 273, 3) := by decide +kernel
theorem dX9_serve_20 : decode cX9_serve 20 = .ok (.aload_n 0, 1) := by decide +kernel
theorem dX9_serve_21 : decode cX9_serve 21 = .ok (.getfield 12, 3) := by decide +kernel
theorem dX9_serve_24 : decode cX9_serve 24 = .ok (.iload_n 1, 1) := by decide +kernel
theorem dX9_serve_25 : decode cX9_serve 25 = .ok (.iload 4, 2) := by decide +kernel
theorem dX9_serve_27 : decode cX9_serve 27 = .ok (.aload_n 0, 1) := by decide +kernel
theorem dX9_serve_28 : decode cX9_serve 28 = .ok (.getfield 32, 3) := by decide +kernel
theorem dX9_serve_31 : decode cX9_serve 31 = .ok (.invokevirtual 314, 3) := by decide +kernel
theorem dX9_serve_34 : decode cX9_serve 34 = .ok (.iload_n 3, 1) := by decide +kernel
theorem dX9_serve_35 : decode cX9_serve 35 = .ok (.iconst (-1), 1) := by decide +kernel
theorem dX9_serve_36 : decode cX9_serve 36 = .ok (.if_icmp .eq 16, 3) := by decide +kernel
theorem dX9_serve_39 : decode cX9_serve 39 = .ok (.aload_n 0, 1) := by decide +kernel
theorem dX9_serve_40 : decode cX9_serve 40 = .ok (.getfield 12, 3) := by decide +kernel
theorem dX9_serve_43 : decode cX9_serve 43 = .ok (.getfield 130, 3) := by decide +kernel
theorem dX9_serve_46 : decode cX9_serve 46 = .ok (.getfield 254, 3) := by decide +kernel
theorem dX9_serve_49 : decode cX9_serve 49 = .ok (.iload_n 2, 1) := by decide +kernel
theorem dX9_serve_50 : decode cX9_serve 50 = .ok (.iload_n 3, 1) := by decide +kernel
theorem dX9_serve_51 : decode cX9_serve 51 = .ok (.iastore, 1) := by decide +kernel
theorem dX9_serve_52 : decode cX9_serve 52 = .ok (.aload_n 0, 1) := by decide +kernel
theorem dX9_serve_53 : decode cX9_serve 53 = .ok (.getfield 32, 3) := by decide +kernel
theorem dX9_serve_56 : decode cX9_serve 56 = .ok (.getfield 277, 3) := by decide +kernel
theorem dX9_serve_59 : decode cX9_serve 59 = .ok (.ireturn, 1) := by decide +kernel
set_option maxRecDepth 100000 in
set_option maxHeartbeats 4000000 in
theorem c_X9_serve (l : Launch) (D : va_G) (cas : Nat → ClassId) (ad : Nat → Nat) (hi : zInj ad) {v1 : Int} {v2 : Int} {v3 : Int}  {r : Int} {M M' : Mem} (hf : f_X9_serve v1 v2 v3 M = some (r, M')) : zMi l D cas ad yX9_serve cX9_serve 5 (some .int) 5 120 [.ref (ad 0), .int (zI v1), .int (zI v2), .int (zI v3)] M r M' := by
  refine zbody (by decide) (Nat.le_of_ble_eq_true rfl) hi ?_
  intro p e s m args below meth c X hr hk0
  have X : zX p s m args c cX9_serve "ShardTrails" 5 D cas ad (zA ad) := X
  have hB52 : ∀ (M : Mem), f_X9_serve_b52 M = some (r, M') → WW p l e (zrm 5 120) s m args below meth c D cas ad (zA ad) 5 0 0 (MQ below (zQi D cas ad r M') args s 0 0 (zA ad)) 52 [(0, .ref (ad 0))] [] M := by
    intro M hf
    unfold f_X9_serve_b52 at hf
    refine R_aload_n X 0 dX9_serve_52 rfl rfl ?_
    refine R_getR X (j := 4) 206 206 lc_0 rfl inX9 (by decide) rfl rfl (by decide) rfl rfl wf_X9_32 dX9_serve_53 ?_
    refine R_getI X (j := 0) lc_206 rfl inX6 (by decide) rfl rfl rfl wf_X9_277 dX9_serve_56 ?_
    exact R_iret X hr hk0 dX9_serve_59 hf
  unfold f_X9_serve at hf
  refine (?_ : WW p l e (zrm 5 120) s m args below meth c D cas ad (zA ad) 5 0 0 (MQ below (zQi D cas ad r M') args s 0 0 (zA ad)) 0 [(0, .ref (ad 0)), (1, .int (zI v1)), (2, .int (zI v2)), (3, .int (zI v3))] [] M)
  refine R_iload_n X 2 dX9_serve_0 rfl rfl ?_
  refine R_bipush X dX9_serve_1 (by decide +kernel) ?_
  obtain ⟨hq1, hf⟩ := zgrd hf
  refine R_idiv X ⟨⟨hq1, (by decide)⟩, (by decide)⟩ dX9_serve_3 ?_
  obtain ⟨x2, ex2, hf⟩ := zlt_some hf
  refine R_istoreX X (lv' := [(4, .int (zI x2)), (0, .ref (ad 0)), (1, .int (zI v1)), (2, .int (zI v2)), (3, .int (zI v3))]) ex2 dX9_serve_4 (by decide) rfl ?_
  refine R_aload_n X 1 dX9_serve_6 rfl rfl ?_
  refine R_getR X (j := 4) 206 206 lc_0 rfl inX9 (by decide) rfl rfl (by decide) rfl rfl wf_X9_32 dX9_serve_7 ?_
  refine R_aload_n X 1 dX9_serve_10 rfl rfl ?_
  refine R_getR X (j := 0) 1 1 lc_0 rfl inX9 (by decide) rfl rfl (by decide) rfl rfl wf_X9_12 dX9_serve_11 ?_
  refine R_iload_n X 2 dX9_serve_14 rfl rfl ?_
  refine R_iload X 0 dX9_serve_15 rfl ?_
  obtain ⟨r3, M4, hc5, hf⟩ := zbnd_some hf
  refine R_callVv X (av := [.ref (ad 1), .int (zI v1), .int (zI x2)]) (rest := []) (c_X6_find l D cas ad hi lc_1 hc5) zy_X6_find lc_206 rfl rfl wm_X9_273 rfl rfl ⟨Nat.le_of_ble_eq_true rfl, Nat.le_of_ble_eq_true rfl⟩ ⟨Nat.le_refl _, Nat.le_refl _⟩ (Nat.le_of_ble_eq_true rfl) dX9_serve_17 ?_
  refine R_aload_n X 1 dX9_serve_20 rfl rfl ?_
  refine R_getR X (j := 0) 1 1 lc_0 rfl inX9 (by decide) rfl rfl (by decide) rfl rfl wf_X9_12 dX9_serve_21 ?_
  refine R_iload_n X 2 dX9_serve_24 rfl rfl ?_
  refine R_iload X 0 dX9_serve_25 rfl ?_
  refine R_aload_n X 1 dX9_serve_27 rfl rfl ?_
  refine R_getR X (j := 4) 206 206 lc_0 rfl inX9 (by decide) rfl rfl (by decide) rfl rfl wf_X9_32 dX9_serve_28 ?_
  obtain ⟨r6, M7, hc8, hf⟩ := zbnd_some hf
  refine R_callVv X (av := [.int (zI v1), .int (zI x2), .ref (ad 206)]) (rest := []) (c_X7_noteRequest l D cas ad hi lc_1 hc8) zy_X7_noteRequest lc_1 rfl rfl wm_X9_314 rfl rfl ⟨Nat.le_of_ble_eq_true rfl, Nat.le_of_ble_eq_true rfl⟩ ⟨Nat.le_refl _, Nat.le_refl _⟩ (Nat.le_of_ble_eq_true rfl) dX9_serve_31 ?_
  refine R_iload_n X 4 dX9_serve_34 rfl rfl ?_
  refine R_iconst X dX9_serve_35 ?_
  obtain ⟨hq9, hf⟩ := zgrd hf
  refine R_icmp_eq X 52 ⟨hq9, (by decide)⟩ dX9_serve_36 (by decide) (fun c12 => ?_) (fun c12 => ?_)
  · have hf := zthen hf c12
    exact R_sub [1] rfl (hB52 M7 hf)
  · have hf := zelse hf c12
    refine R_aload_n X 1 dX9_serve_39 rfl rfl ?_
    refine R_getR X (j := 0) 1 1 lc_0 rfl inX9 (by decide) rfl rfl (by decide) rfl rfl wf_X9_12 dX9_serve_40 ?_
    refine R_getR X (j := 7) 13 14 lc_1 rfl inX7 (by decide) rfl rfl (by decide) rfl rfl wf_X9_130 dX9_serve_43 ?_
    refine R_getR X (j := 3) 4 18 lc_14 rfl inX0 (by decide) rfl rfl (by decide) rfl rfl wf_X9_254 dX9_serve_46 ?_
    refine R_iload_n X 3 dX9_serve_49 rfl rfl ?_
    refine R_iload_n X 4 dX9_serve_50 rfl rfl ?_
    obtain ⟨hq10, hf⟩ := zgrd hf
    obtain ⟨M11, eM11, hf⟩ := zlt_some hf
    refine R_iast X lc_18 hq10 dX9_serve_51 ?_
    refine R_mem eM11 ?_
    exact R_sub [1] rfl (hB52 M11 hf)
theorem dX9_request_0 : decode cX9_request 0 = .ok (.aload_n 0, 1) := by decide +kernel
theorem dX9_request_1 : decode cX9_request 1 = .ok (.iload_n 1, 1) := by decide +kernel
theorem dX9_request_2 : decode cX9_request 2 = .ok (.invokevirtual 155, 3) := by decide +kernel
theorem dX9_request_5 : decode cX9_request 5 = .ok (.ifCond .eq 10, 3) := by decide +kernel
theorem dX9_request_8 : decode cX9_request 8 = .ok (.iload_n 2, 1) := by decide +kernel
theorem dX9_request_9 : decode cX9_request 9 = .ok (.invokestatic 158, 3) := by decide +kernel
theorem dX9_request_12 : decode cX9_request 12 = .ok (.ifCond .ne 5, 3) := by decide +kernel
theorem dX9_request_15 : decode cX9_request 15 = .ok (.iconst (-1), 1) := by decide +kernel
theorem dX9_request_16 : decode cX9_request 16 = .ok (.ireturn, 1) := by decide +kernel
theorem dX9_request_17 : decode cX9_request 17 = .ok (.aload_n 0, 1) := by decide +kernel
theorem dX9_request_18 : decode cX9_request 18 = .ok (.getfield 25, 3) := by decide +kernel
theorem dX9_request_21 : decode cX9_request 21 = .ok (.aload_n 0, 1) := by decide +kernel
theorem dX9_request_22 : decode cX9_request 22 = .ok (.getfield 12, 3) := by decide +kernel
theorem dX9_request_25 : decode cX9_request 25 = .ok (.invokevirtual 57, 3) := by decide +kernel
theorem dX9_request_28 : decode cX9_request 28 = .ok (.aload_n 0, 1) := by decide +kernel
theorem dX9_request_29 : decode cX9_request 29 = .ok (.iload_n 1, 1) := by decide +kernel
theorem dX9_request_30 : decode cX9_request 30 = .ok (.iload_n 2, 1) := by decide +kernel
theorem dX9_request_31 : decode cX9_request 31 = .ok (.iconst (-1), 1) := by decide +kernel
theorem dX9_request_32 : decode cX9_request 32 = .ok (.invokevirtual 161, 3) := by decide +kernel
theorem dX9_request_35 : decode cX9_request 35 = .ok (.ireturn, 1) := by decide +kernel
set_option maxRecDepth 100000 in
set_option maxHeartbeats 4000000 in
theorem c_X9_request (l : Launch) (D : va_G) (cas : Nat → ClassId) (ad : Nat → Nat) (hi : zInj ad) {v1 : Int} {v2 : Int}  {r : Int} {M M' : Mem} (hf : f_X9_request v1 v2 M = some (r, M')) : zMi l D cas ad yX9_request cX9_request 3 (some .int) 6 144 [.ref (ad 0), .int (zI v1), .int (zI v2)] M r M' := by
  refine zbody (by decide) (Nat.le_of_ble_eq_true rfl) hi ?_
  intro p e s m args below meth c X hr hk0
  have X : zX p s m args c cX9_request "ShardTrails" 3 D cas ad (zA ad) := X
  have hB15 : ∀ (M : Mem), f_X9_request_b15 M = some (r, M') → WW p l e (zrm 6 144) s m args below meth c D cas ad (zA ad) 3 0 0 (MQ below (zQi D cas ad r M') args s 0 0 (zA ad)) 15 [] [] M := by
    intro M hf
    unfold f_X9_request_b15 at hf
    refine R_iconst X dX9_request_15 ?_
    exact R_iret X hr hk0 dX9_request_16 hf
  unfold f_X9_request at hf
  refine (?_ : WW p l e (zrm 6 144) s m args below meth c D cas ad (zA ad) 3 0 0 (MQ below (zQi D cas ad r M') args s 0 0 (zA ad)) 0 [(0, .ref (ad 0)), (1, .int (zI v1)), (2, .int (zI v2))] [] M)
  refine R_aload_n X 0 dX9_request_0 rfl rfl ?_
  refine R_iload_n X 1 dX9_request_1 rfl rfl ?_
  obtain ⟨r1, M2, hc3, hf⟩ := zbnd_some hf
  refine R_callVi X (av := [.int (zI v1)]) (rest := []) (c_X9_isReader l D cas ad hi hc3) zy_X9_isReader lc_0 rfl rfl wm_X9_155 rfl rfl ⟨Nat.le_of_ble_eq_true rfl, Nat.le_of_ble_eq_true rfl⟩ ⟨Nat.le_refl _, Nat.le_refl _⟩ (Nat.le_of_ble_eq_true rfl) dX9_request_2 ?_
  obtain ⟨hq4, hf⟩ := zgrd hf
  refine R_if_eq X 15 hq4 dX9_request_5 (by decide) (fun c16 => ?_) (fun c16 => ?_)
  · have hf := zthen hf c16
    exact R_sub [] rfl (hB15 M2 hf)
  · have hf := zelse hf c16
    refine R_iload_n X 2 dX9_request_8 rfl rfl ?_
    obtain ⟨r5, M6, hc7, hf⟩ := zbnd_some hf
    refine R_callSi X (av := [.int (zI v2)]) (rest := []) (c_X9_isKey l D cas ad hi hc7) zy_X9_isKey wm_X9_158 rfl rfl ⟨Nat.le_of_ble_eq_true rfl, Nat.le_of_ble_eq_true rfl⟩ ⟨Nat.le_refl _, Nat.le_refl _⟩ (Nat.le_of_ble_eq_true rfl) dX9_request_9 ?_
    obtain ⟨hq8, hf⟩ := zgrd hf
    refine R_if_ne X 17 hq8 dX9_request_12 (by decide) (fun c15 => ?_) (fun c15 => ?_)
    · have hf := zelse hf c15
      refine R_aload_n X 0 dX9_request_17 rfl rfl ?_
      refine R_getR X (j := 3) 88 88 lc_0 rfl inX9 (by decide) rfl rfl (by decide) rfl rfl wf_X9_25 dX9_request_18 ?_
      refine R_aload_n X 0 dX9_request_21 rfl rfl ?_
      refine R_getR X (j := 0) 1 1 lc_0 rfl inX9 (by decide) rfl rfl (by decide) rfl rfl wf_X9_12 dX9_request_22 ?_
      obtain ⟨r9, M10, hc11, hf⟩ := zbnd_some hf
      refine R_callVv X (av := [.ref (ad 1)]) (rest := []) (c_X1_store l D cas ad hi lc_1 hc11) zy_X1_store lc_88 rfl rfl wm_X9_57 rfl rfl ⟨Nat.le_of_ble_eq_true rfl, Nat.le_of_ble_eq_true rfl⟩ ⟨Nat.le_refl _, Nat.le_refl _⟩ (Nat.le_of_ble_eq_true rfl) dX9_request_25 ?_
      refine R_aload_n X 0 dX9_request_28 rfl rfl ?_
      refine R_iload_n X 1 dX9_request_29 rfl rfl ?_
      refine R_iload_n X 2 dX9_request_30 rfl rfl ?_
      refine R_iconst X dX9_request_31 ?_
      obtain ⟨r12, M13, hc14, hf⟩ := zbnd_some hf
      refine R_callVi X (av := [.int (zI v1), .int (zI v2), .int (zI (-1))]) (rest := []) (c_X9_serve l D cas ad hi hc14) zy_X9_serve lc_0 rfl rfl wm_X9_161 rfl rfl ⟨Nat.le_of_ble_eq_true rfl, Nat.le_of_ble_eq_true rfl⟩ ⟨Nat.le_refl _, Nat.le_refl _⟩ (Nat.le_of_ble_eq_true rfl) dX9_request_32 ?_
      exact R_iret X hr hk0 dX9_request_35 hf
    · have hf := zthen hf c15
      exact R_sub [] rfl (hB15 M6 hf)
theorem dX9_restore_0 : decode cX9_restore 0 = .ok (.aload_n 0, 1) := by decide +kernel
theorem dX9_restore_1 : decode cX9_restore 1 = .ok (.getfield 191, 3) := by decide +kernel
theorem dX9_restore_4 : decode cX9_restore 4 = .ok (.ifCond .ne 6, 3) := by decide +kernel
theorem dX9_restore_7 : decode cX9_restore 7 = .ok (.bipush (-5), 2) := by decide +kernel
theorem dX9_restore_9 : decode cX9_restore 9 = .ok (.ireturn, 1) := by decide +kernel
theorem dX9_restore_10 : decode cX9_restore 10 = .ok (.aload_n 0, 1) := by decide +kernel
theorem dX9_restore_11 : decode cX9_restore 11 = .ok (.getfield 25, 3) := by decide +kernel
theorem dX9_restore_14 : decode cX9_restore 14 = .ok (.aload_n 0, 1) := by decide +kernel
theorem dX9_restore_15 : decode cX9_restore 15 = .ok (.getfield 12, 3) := by decide +kernel
theorem dX9_restore_18 : decode cX9_restore 18 = .ok (.invokevirtual 57, 3) := by decide +kernel
theorem dX9_restore_21 : decode cX9_restore 21 = .ok (.aload_n 0, 1) := by decide +kernel
theorem dX9_restore_22 : decode cX9_restore 22 = .ok (.getfield 12, 3) := by decide +kernel
theorem dX9_restore_25 : decode cX9_restore 25 = .ok (.aload_n 0, 1) := by decide +kernel
theorem dX9_restore_26 : decode cX9_restore 26 = .ok (.getfield 19, 3) := by decide +kernel
theorem dX9_restore_29 : decode cX9_restore 29 = .ok (.invokevirtual 188, 3) := by decide +kernel
theorem dX9_restore_32 : decode cX9_restore 32 = .ok (.aload_n 0, 1) := by decide +kernel
theorem dX9_restore_33 : decode cX9_restore 33 = .ok (.getfield 12, 3) := by decide +kernel
theorem dX9_restore_36 : decode cX9_restore 36 = .ok (.getfield 121, 3) := by decide +kernel
theorem dX9_restore_39 : decode cX9_restore 39 = .ok (.ireturn, 1) := by decide +kernel
set_option maxRecDepth 100000 in
set_option maxHeartbeats 4000000 in
theorem c_X9_restore (l : Launch) (D : va_G) (cas : Nat → ClassId) (ad : Nat → Nat) (hi : zInj ad)   {r : Int} {M M' : Mem} (hf : f_X9_restore M = some (r, M')) : zMi l D cas ad yX9_restore cX9_restore 1 (some .int) 5 111 [.ref (ad 0)] M r M' := by
  refine zbody (by decide) (Nat.le_of_ble_eq_true rfl) hi ?_
  intro p e s m args below meth c X hr hk0
  have X : zX p s m args c cX9_restore "ShardTrails" 1 D cas ad (zA ad) := X
  unfold f_X9_restore at hf
  refine (?_ : WW p l e (zrm 5 111) s m args below meth c D cas ad (zA ad) 1 0 0 (MQ below (zQi D cas ad r M') args s 0 0 (zA ad)) 0 [(0, .ref (ad 0))] [] M)
  refine R_aload_n X 0 dX9_restore_0 rfl rfl ?_
  refine R_getI X (j := 6) lc_0 rfl inX9 (by decide) rfl rfl rfl wf_X9_191 dX9_restore_1 ?_
  obtain ⟨hq1, hf⟩ := zgrd hf
  refine R_if_ne X 10 hq1 dX9_restore_4 (by decide) (fun c8 => ?_) (fun c8 => ?_)
  · have hf := zelse hf c8
    refine R_aload_n X 0 dX9_restore_10 rfl rfl ?_
    refine R_getR X (j := 3) 88 88 lc_0 rfl inX9 (by decide) rfl rfl (by decide) rfl rfl wf_X9_25 dX9_restore_11 ?_
    refine R_aload_n X 0 dX9_restore_14 rfl rfl ?_
    refine R_getR X (j := 0) 1 1 lc_0 rfl inX9 (by decide) rfl rfl (by decide) rfl rfl wf_X9_12 dX9_restore_15 ?_
    obtain ⟨r2, M3, hc4, hf⟩ := zbnd_some hf
    refine R_callVv X (av := [.ref (ad 1)]) (rest := []) (c_X1_store l D cas ad hi lc_1 hc4) zy_X1_store lc_88 rfl rfl wm_X9_57 rfl rfl ⟨Nat.le_of_ble_eq_true rfl, Nat.le_of_ble_eq_true rfl⟩ ⟨Nat.le_refl _, Nat.le_refl _⟩ (Nat.le_of_ble_eq_true rfl) dX9_restore_18 ?_
    refine R_aload_n X 0 dX9_restore_21 rfl rfl ?_
    refine R_getR X (j := 0) 1 1 lc_0 rfl inX9 (by decide) rfl rfl (by decide) rfl rfl wf_X9_12 dX9_restore_22 ?_
    refine R_aload_n X 0 dX9_restore_25 rfl rfl ?_
    refine R_getR X (j := 2) 59 59 lc_0 rfl inX9 (by decide) rfl rfl (by decide) rfl rfl wf_X9_19 dX9_restore_26 ?_
    obtain ⟨r5, M6, hc7, hf⟩ := zbnd_some hf
    refine R_callVv X (av := [.ref (ad 59)]) (rest := []) (c_X7_copyFrom l D cas ad hi lc_1 lc_59 hc7) zy_X7_copyFrom lc_1 rfl rfl wm_X9_188 rfl rfl ⟨Nat.le_of_ble_eq_true rfl, Nat.le_of_ble_eq_true rfl⟩ ⟨Nat.le_refl _, Nat.le_refl _⟩ (Nat.le_of_ble_eq_true rfl) dX9_restore_29 ?_
    refine R_aload_n X 0 dX9_restore_32 rfl rfl ?_
    refine R_getR X (j := 0) 1 1 lc_0 rfl inX9 (by decide) rfl rfl (by decide) rfl rfl wf_X9_12 dX9_restore_33 ?_
    refine R_getI X (j := 0) lc_1 rfl inX7 (by decide) rfl rfl rfl wf_X9_121 dX9_restore_36 ?_
    exact R_iret X hr hk0 dX9_restore_39 hf
  · have hf := zthen hf c8
    refine R_bipush X dX9_restore_7 (by decide +kernel) ?_
    exact R_iret X hr hk0 dX9_restore_9 hf
theorem dX9_set_0 : decode cX9_set 0 = .ok (.iload_n 1, 1) := by decide +kernel
theorem dX9_set_1 : decode cX9_set 1 = .ok (.iconst 0, 1) := by decide +kernel
theorem dX9_set_2 : decode cX9_set 2 = .ok (.iconst 5, 1) := by decide +kernel
theorem dX9_set_3 : decode cX9_set 3 = .ok (.invokestatic 43, 3) := by decide +kernel
theorem dX9_set_6 : decode cX9_set 6 = .ok (.ifCond .ne 6, 3) := by decide +kernel
theorem dX9_set_9 : decode cX9_set 9 = .ok (.bipush (-2), 2) := by decide +kernel
theorem dX9_set_11 : decode cX9_set 11 = .ok (.ireturn, 1) := by decide +kernel
theorem dX9_set_12 : decode cX9_set 12 = .ok (.iload_n 2, 1) := by decide +kernel
theorem dX9_set_13 : decode cX9_set 13 = .ok (.getstatic 112, 3) := by decide +kernel
theorem dX9_set_16 : decode cX9_set 16 = .ok (.iload_n 1, 1) := by decide +kernel
theorem dX9_set_17 : decode cX9_set 17 = .ok (.iaload, 1) := by decide +kernel
theorem dX9_set_18 : decode cX9_set 18 = .ok (.getstatic 115, 3) := by decide +kernel
theorem dX9_set_21 : decode cX9_set 21 = .ok (.iload_n 1, 1) := by decide +kernel
theorem dX9_set_22 : decode cX9_set 22 = .ok (.iaload, 1) := by decide +kernel
theorem dX9_set_23 : decode cX9_set 23 = .ok (.invokestatic 43, 3) := by decide +kernel
theorem dX9_set_26 : decode cX9_set 26 = .ok (.ifCond .ne 6, 3) := by decide +kernel
theorem dX9_set_29 : decode cX9_set 29 = .ok (.bipush (-2), 2) := by decide +kernel
theorem dX9_set_31 : decode cX9_set 31 = .ok (.ireturn, 1) := by decide +kernel
theorem dX9_set_32 : decode cX9_set 32 = .ok (.aload_n 0, 1) := by decide +kernel
theorem dX9_set_33 : decode cX9_set 33 = .ok (.getfield 12, 3) := by decide +kernel
theorem dX9_set_36 : decode cX9_set 36 = .ok (.getfield 118, 3) := by decide +kernel
theorem dX9_set_39 : decode cX9_set 39 = .ok (.iload_n 1, 1) := by decide +kernel
theorem dX9_set_40 : decode cX9_set 40 = .ok (.iaload, 1) := by decide +kernel
theorem dX9_set_41 : decode cX9_set 41 = .ok (.istore_n 3, 1) := by decide +kernel
theorem dX9_set_42 : decode cX9_set 42 = .ok (.iload_n 3, 1) := by decide +kernel
theorem dX9_set_43 : decode cX9_set 43 = .ok (.iload_n 2, 1) := by decide +kernel
theorem dX9_set_44 : decode cX9_set 44 = .ok (.if_icmp .ne 6, 3) := by decide +kernel
theorem dX9_set_47 : decode cX9_set 47 = .ok (.bipush (-5), 2) := by decide +kernel
theorem dX9_set_49 : decode cX9_set 49 = .ok (.ireturn, 1) := by decide +kernel
theorem dX9_set_50 : decode cX9_set 50 = .ok (.aload_n 0, 1) := by decide +kernel
theorem dX9_set_51 : decode cX9_set 51 = .ok (.getfield 25, 3) := by decide +kernel
theorem dX9_set_54 : decode cX9_set 54 = .ok (.aload_n 0, 1) := by decide +kernel
theorem dX9_set_55 : decode cX9_set 55 = .ok (.getfield 12, 3) := by decide +kernel
theorem dX9_set_58 : decode cX9_set 58 = .ok (.invokevirtual 57, 3) := by decide +kernel
theorem dX9_set_61 : decode cX9_set 61 = .ok (.aload_n 0, 1) := by decide +kernel
theorem dX9_set_62 : decode cX9_set 62 = .ok (.getfield 12, 3) := by decide +kernel
theorem dX9_set_65 : decode cX9_set 65 = .ok (.getfield 118, 3) := by decide +kernel
theorem dX9_set_68 : decode cX9_set 68 = .ok (.iload_n 1, 1) := by decide +kernel
theorem dX9_set_69 : decode cX9_set 69 = .ok (.iload_n 2, 1) := by decide +kernel
theorem dX9_set_70 : decode cX9_set 70 = .ok (.iastore, 1) := by decide +kernel
theorem dX9_set_71 : decode cX9_set 71 = .ok (.iload_n 3, 1) := by decide +kernel
theorem dX9_set_72 : decode cX9_set 72 = .ok (.ireturn, 1) := by decide +kernel
set_option maxRecDepth 100000 in
set_option maxHeartbeats 4000000 in
theorem c_X9_set (l : Launch) (D : va_G) (cas : Nat → ClassId) (ad : Nat → Nat) (hi : zInj ad) {v1 : Int} {v2 : Int}  {r : Int} {M M' : Mem} (hf : f_X9_set v1 v2 M = some (r, M')) : zMi l D cas ad yX9_set cX9_set 4 (some .int) 5 111 [.ref (ad 0), .int (zI v1), .int (zI v2)] M r M' := by
  refine zbody (by decide) (Nat.le_of_ble_eq_true rfl) hi ?_
  intro p e s m args below meth c X hr hk0
  have X : zX p s m args c cX9_set "ShardTrails" 4 D cas ad (zA ad) := X
  unfold f_X9_set at hf
  refine (?_ : WW p l e (zrm 5 111) s m args below meth c D cas ad (zA ad) 4 0 0 (MQ below (zQi D cas ad r M') args s 0 0 (zA ad)) 0 [(0, .ref (ad 0)), (1, .int (zI v1)), (2, .int (zI v2))] [] M)
  refine R_iload_n X 1 dX9_set_0 rfl rfl ?_
  refine R_iconst X dX9_set_1 ?_
  refine R_iconst X dX9_set_2 ?_
  obtain ⟨r1, M2, hc3, hf⟩ := zbnd_some hf
  refine R_callSi X (av := [.int (zI v1), .int (zI 0), .int (zI 5)]) (rest := []) (c_X9_isWithin l D cas ad hi hc3) zy_X9_isWithin wm_X9_43 rfl rfl ⟨Nat.le_of_ble_eq_true rfl, Nat.le_of_ble_eq_true rfl⟩ ⟨Nat.le_refl _, Nat.le_refl _⟩ (Nat.le_of_ble_eq_true rfl) dX9_set_3 ?_
  obtain ⟨hq4, hf⟩ := zgrd hf
  refine R_if_ne X 12 hq4 dX9_set_6 (by decide) (fun c21 => ?_) (fun c21 => ?_)
  · have hf := zelse hf c21
    refine R_iload_n X 2 dX9_set_12 rfl rfl ?_
    refine R_gets X X.2.2.2.2.2.2.2.2.2.1 wf_X9_112 dX9_set_13 (fun u5 hu5 => ?_)
    refine R_iload_n X 1 dX9_set_16 rfl rfl ?_
    obtain ⟨hq6, hf⟩ := zgrd hf
    refine R_tald X hu5 (by decide) hq6 dX9_set_17 ?_
    refine R_gets X X.2.2.2.2.2.2.2.2.2.2.1 wf_X9_115 dX9_set_18 (fun u7 hu7 => ?_)
    refine R_iload_n X 1 dX9_set_21 rfl rfl ?_
    refine R_tald X hu7 (by decide) hq6 dX9_set_22 ?_
    obtain ⟨r8, M9, hc10, hf⟩ := zbnd_some hf
    refine R_callSi X (av := [.int (zI v2), .int (zI (zR0 v1.toNat)), .int (zI (zR1 v1.toNat))]) (rest := []) (c_X9_isWithin l D cas ad hi hc10) zy_X9_isWithin wm_X9_43 rfl rfl ⟨Nat.le_of_ble_eq_true rfl, Nat.le_of_ble_eq_true rfl⟩ ⟨Nat.le_refl _, Nat.le_refl _⟩ (Nat.le_of_ble_eq_true rfl) dX9_set_23 ?_
    obtain ⟨hq11, hf⟩ := zgrd hf
    refine R_if_ne X 32 hq11 dX9_set_26 (by decide) (fun c20 => ?_) (fun c20 => ?_)
    · have hf := zelse hf c20
      refine R_aload_n X 0 dX9_set_32 rfl rfl ?_
      refine R_getR X (j := 0) 1 1 lc_0 rfl inX9 (by decide) rfl rfl (by decide) rfl rfl wf_X9_12 dX9_set_33 ?_
      refine R_getR X (j := 3) 1 2 lc_1 rfl inX7 (by decide) rfl rfl (by decide) rfl rfl wf_X9_118 dX9_set_36 ?_
      refine R_iload_n X 1 dX9_set_39 rfl rfl ?_
      refine R_iald X lc_2 hq6 dX9_set_40 ?_
      obtain ⟨x12, ex12, hf⟩ := zlt_some hf
      refine R_istore_nX X (lv' := [(3, .int (zI x12)), (0, .ref (ad 0)), (1, .int (zI v1)), (2, .int (zI v2))]) ex12 dX9_set_41 rfl (by decide) rfl ?_
      refine R_iload_n X 0 dX9_set_42 rfl rfl ?_
      refine R_iload_n X 3 dX9_set_43 rfl rfl ?_
      obtain ⟨hq13, hf⟩ := zgrd hf
      obtain ⟨hq14, hf⟩ := zgrd hf
      refine R_icmp_ne X 50 ⟨hq13, hq14⟩ dX9_set_44 (by decide) (fun c19 => ?_) (fun c19 => ?_)
      · have hf := zelse hf c19
        refine R_aload_n X 1 dX9_set_50 rfl rfl ?_
        refine R_getR X (j := 3) 88 88 lc_0 rfl inX9 (by decide) rfl rfl (by decide) rfl rfl wf_X9_25 dX9_set_51 ?_
        refine R_aload_n X 1 dX9_set_54 rfl rfl ?_
        refine R_getR X (j := 0) 1 1 lc_0 rfl inX9 (by decide) rfl rfl (by decide) rfl rfl wf_X9_12 dX9_set_55 ?_
        obtain ⟨r15, M16, hc17, hf⟩ := zbnd_some hf
        refine R_callVv X (av := [.ref (ad 1)]) (rest := []) (c_X1_store l D cas ad hi lc_1 hc17) zy_X1_store lc_88 rfl rfl wm_X9_57 rfl rfl ⟨Nat.le_of_ble_eq_true rfl, Nat.le_of_ble_eq_true rfl⟩ ⟨Nat.le_refl _, Nat.le_refl _⟩ (Nat.le_of_ble_eq_true rfl) dX9_set_58 ?_
        refine R_aload_n X 1 dX9_set_61 rfl rfl ?_
        refine R_getR X (j := 0) 1 1 lc_0 rfl inX9 (by decide) rfl rfl (by decide) rfl rfl wf_X9_12 dX9_set_62 ?_
        refine R_getR X (j := 3) 1 2 lc_1 rfl inX7 (by decide) rfl rfl (by decide) rfl rfl wf_X9_118 dX9_set_65 ?_
        refine R_iload_n X 2 dX9_set_68 rfl rfl ?_
        refine R_iload_n X 3 dX9_set_69 rfl rfl ?_
        obtain ⟨M18, eM18, hf⟩ := zlt_some hf
        refine R_iast X lc_2 hq6 dX9_set_70 ?_
        refine R_mem eM18 ?_
        refine R_iload_n X 0 dX9_set_71 rfl rfl ?_
        exact R_iret X hr hk0 dX9_set_72 hf
      · have hf := zthen hf c19
        refine R_bipush X dX9_set_47 (by decide +kernel) ?_
        exact R_iret X hr hk0 dX9_set_49 hf
    · have hf := zthen hf c20
      refine R_bipush X dX9_set_29 (by decide +kernel) ?_
      exact R_iret X hr hk0 dX9_set_31 hf
  · have hf := zthen hf c21
    refine R_bipush X dX9_set_9 (by decide +kernel) ?_
    exact R_iret X hr hk0 dX9_set_11 hf
theorem dX2_forgetPosted_0 : decode cX2_forgetPosted 0 = .ok (.iconst 0, 1) := by decide +kernel
theorem dX2_forgetPosted_1 : decode cX2_forgetPosted 1 = .ok (.istore_n 2, 1) := by decide +kernel
theorem dX2_forgetPosted_2 : decode cX2_forgetPosted 2 = .ok (.iload_n 2, 1) := by decide +kernel
theorem dX2_forgetPosted_3 : decode cX2_forgetPosted 3 = .ok (.bipush 16, 2) := by decide +kernel
theorem dX2_forgetPosted_5 : decode cX2_forgetPosted 5 = .ok (.if_icmp .ge 21, 3) := by decide +kernel
theorem dX2_forgetPosted_8 : decode cX2_forgetPosted 8 = .ok (.aload_n 0, 1) := by decide +kernel
theorem dX2_forgetPosted_9 : decode cX2_forgetPosted 9 = .ok (.getfield 28, 3) := by decide +kernel
theorem dX2_forgetPosted_12 : decode cX2_forgetPosted 12 = .ok (.iload_n 1, 1) := by decide +kernel
theorem dX2_forgetPosted_13 : decode cX2_forgetPosted 13 = .ok (.iload_n 2, 1) := by decide +kernel
theorem dX2_forgetPosted_14 : decode cX2_forgetPosted 14 = .ok (.invokestatic 51, 3) := by decide +kernel
theorem dX2_forgetPosted_17 : decode cX2_forgetPosted 17 = .ok (.bipush (-5), 2) := by decide +kernel
theorem dX2_forgetPosted_19 : decode cX2_forgetPosted 19 = .ok (.iastore, 1) := by decide +kernel
theorem dX2_forgetPosted_20 : decode cX2_forgetPosted 20 = .ok (.iinc 2 1, 3) := by decide +kernel
theorem dX2_forgetPosted_23 : decode cX2_forgetPosted 23 = .ok (.goto (-21), 3) := by decide +kernel
theorem dX2_forgetPosted_26 : decode cX2_forgetPosted 26 = .ok (.return_, 1) := by decide +kernel
set_option maxRecDepth 100000 in
set_option maxHeartbeats 4000000 in
theorem c_X2_forgetPosted (l : Launch) (D : va_G) (cas : Nat → ClassId) (ad : Nat → Nat) (hi : zInj ad) {k : Nat} {v1 : Int} (hk : k < zN ∧ lay k = (0, 2)) {r : Int} {M M' : Mem} (hf : f_X2_forgetPosted k v1 M = some (r, M')) : zMv l D cas ad yX2_forgetPosted cX2_forgetPosted 3 1 21 [.ref (ad k), .int (zI v1)] M M' := by
  refine zbody (by decide) (Nat.le_of_ble_eq_true rfl) hi ?_
  intro p e s m args below meth c X hr hk0
  have X : zX p s m args c cX2_forgetPosted "ShardTrails$Land" 3 D cas ad (zA ad) := X
  have hB2 : ∀ (n : Nat) (v1 v2 : Int) (M : Mem), f_X2_forgetPosted_b2 k n v1 v2 M = some (r, M') → WW p l e (zrm 1 21) s m args below meth c D cas ad (zA ad) 3 0 0 (MQ below (zQv D cas ad M') args s 0 0 (zA ad)) 2 [(0, .ref (ad k)), (1, .int (zI v1)), (2, .int (zI v2))] [] M := by
    intro n
    induction n with
    | zero => intro v1 v2 M hf; exact absurd hf (by unfold f_X2_forgetPosted_b2; simp)
    | succ n ih =>
      intro v1 v2 M hf
      unfold f_X2_forgetPosted_b2 at hf
      refine R_iload_n X 2 dX2_forgetPosted_2 rfl rfl ?_
      refine R_bipush X dX2_forgetPosted_3 (by decide +kernel) ?_
      obtain ⟨hq1, hf⟩ := zgrd hf
      refine R_icmp_ge X 26 ⟨hq1, (by decide)⟩ dX2_forgetPosted_5 (by decide) (fun c8 => ?_) (fun c8 => ?_)
      · have hf := zthen hf c8
        exact R_vret X hr hk0 dX2_forgetPosted_26 hf
      · have hf := zelse hf c8
        refine R_aload_n X 0 dX2_forgetPosted_8 rfl rfl ?_
        have hp2 : k + 6 < zN ∧ lay (k + 6) = (1, 128) := pt_2_6 _ hk.1 hk.2
        refine R_getR X (j := 6) 6 (k + 6) hk rfl inX2 (by decide) rfl rfl (by decide) rfl rfl wf_X2_28 dX2_forgetPosted_9 ?_
        refine R_iload_n X 1 dX2_forgetPosted_12 rfl rfl ?_
        refine R_iload_n X 2 dX2_forgetPosted_13 rfl rfl ?_
        obtain ⟨r3, M4, hc5, hf⟩ := zbnd_some hf
        refine R_callNi X (av := [.int (zI v1), .int (zI v2)]) (rest := [.ref (ad (k + 6))]) (c_X9_cell l D cas ad hi hc5) zy_X9_cell wn_X2_51 rfl rfl ⟨Nat.le_of_ble_eq_true rfl, Nat.le_of_ble_eq_true rfl⟩ ⟨Nat.le_refl _, Nat.le_refl _⟩ (Nat.le_of_ble_eq_true rfl) dX2_forgetPosted_14 ?_
        refine R_bipush X dX2_forgetPosted_17 (by decide +kernel) ?_
        obtain ⟨hq6, hf⟩ := zgrd hf
        obtain ⟨M7, eM7, hf⟩ := zlt_some hf
        refine R_iast X hp2 hq6 dX2_forgetPosted_19 ?_
        refine R_mem eM7 ?_
        refine R_iinc X (lv' := [(2, .int (zI (v2 + 1))), (0, .ref (ad k)), (1, .int (zI v1))]) 2 dX2_forgetPosted_20 rfl (by decide) rfl ?_
        refine R_goto X 2 dX2_forgetPosted_23 (by decide) ?_
        exact R_sub [1, 2, 0] rfl (ih v1 (v2 + 1) M7 hf)
  unfold f_X2_forgetPosted at hf
  refine (?_ : WW p l e (zrm 1 21) s m args below meth c D cas ad (zA ad) 3 0 0 (MQ below (zQv D cas ad M') args s 0 0 (zA ad)) 0 [(0, .ref (ad k)), (1, .int (zI v1))] [] M)
  refine R_iconst X dX2_forgetPosted_0 ?_
  refine R_istore_n X (lv' := [(2, .int (zI 0)), (0, .ref (ad k)), (1, .int (zI v1))]) dX2_forgetPosted_1 rfl (by decide) rfl ?_
  exact R_sub [1, 2, 0] rfl (hB2 100000 v1 0 M hf)
theorem dX9_setInn_0 : decode cX9_setInn 0 = .ok (.aload_n 0, 1) := by decide +kernel
theorem dX9_setInn_1 : decode cX9_setInn 1 = .ok (.iload_n 1, 1) := by decide +kernel
theorem dX9_setInn_2 : decode cX9_setInn 2 = .ok (.invokevirtual 65, 3) := by decide +kernel
theorem dX9_setInn_5 : decode cX9_setInn 5 = .ok (.ifCond .ne 5, 3) := by decide +kernel
theorem dX9_setInn_8 : decode cX9_setInn 8 = .ok (.iconst (-1), 1) := by decide +kernel
theorem dX9_setInn_9 : decode cX9_setInn 9 = .ok (.ireturn, 1) := by decide +kernel
theorem dX9_setInn_10 : decode cX9_setInn 10 = .ok (.aload_n 0, 1) := by decide +kernel
theorem dX9_setInn_11 : decode cX9_setInn 11 = .ok (.getfield 12, 3) := by decide +kernel
theorem dX9_setInn_14 : decode cX9_setInn 14 = .ok (.getfield 47, 3) := by decide +kernel
theorem dX9_setInn_17 : decode cX9_setInn 17 = .ok (.getfield 76, 3) := by decide +kernel
theorem dX9_setInn_20 : decode cX9_setInn 20 = .ok (.iload_n 1, 1) := by decide +kernel
theorem dX9_setInn_21 : decode cX9_setInn 21 = .ok (.baload, 1) := by decide +kernel
theorem dX9_setInn_22 : decode cX9_setInn 22 = .ok (.iload_n 2, 1) := by decide +kernel
theorem dX9_setInn_23 : decode cX9_setInn 23 = .ok (.if_icmp .ne 6, 3) := by decide +kernel
theorem dX9_setInn_26 : decode cX9_setInn 26 = .ok (.bipush (-5), 2) := by decide +kernel
theorem dX9_setInn_28 : decode cX9_setInn 28 = .ok (.ireturn, 1) := by decide +kernel
theorem dX9_setInn_29 : decode cX9_setInn 29 = .ok (.aload_n 0, 1) := by decide +kernel
theorem dX9_setInn_30 : decode cX9_setInn 30 = .ok (.getfield 25, 3) := by decide +kernel
theorem dX9_setInn_33 : decode cX9_setInn 33 = .ok (.aload_n 0, 1) := by decide +kernel
theorem dX9_setInn_34 : decode cX9_setInn 34 = .ok (.getfield 12, 3) := by decide +kernel
theorem dX9_setInn_37 : decode cX9_setInn 37 = .ok (.invokevirtual 57, 3) := by decide +kernel
theorem dX9_setInn_40 : decode cX9_setInn 40 = .ok (.aload_n 0, 1) := by decide +kernel
theorem dX9_setInn_41 : decode cX9_setInn 41 = .ok (.getfield 12, 3) := by decide +kernel
theorem dX9_setInn_44 : decode cX9_setInn 44 = .ok (.getfield 47, 3) := by decide +kernel
theorem dX9_setInn_47 : decode cX9_setInn 47 = .ok (.getfield 76, 3) := by decide +kernel
theorem dX9_setInn_50 : decode cX9_setInn 50 = .ok (.iload_n 1, 1) := by decide +kernel
theorem dX9_setInn_51 : decode cX9_setInn 51 = .ok (.iload_n 2, 1) := by decide +kernel
theorem dX9_setInn_52 : decode cX9_setInn 52 = .ok (.bastore, 1) := by decide +kernel
theorem dX9_setInn_53 : decode cX9_setInn 53 = .ok (.aload_n 0, 1) := by decide +kernel
theorem dX9_setInn_54 : decode cX9_setInn 54 = .ok (.getfield 12, 3) := by decide +kernel
theorem dX9_setInn_57 : decode cX9_setInn 57 = .ok (.getfield 47, 3) := by decide +kernel
theorem dX9_setInn_60 : decode cX9_setInn 60 = .ok (.iload_n 1, 1) := by decide +kernel
theorem dX9_setInn_61 : decode cX9_setInn 61 = .ok (.invokevirtual 80, 3) := by decide +kernel
theorem dX9_setInn_64 : decode cX9_setInn 64 = .ok (.aload_n 0, 1) := by decide +kernel
theorem dX9_setInn_65 : decode cX9_setInn 65 = .ok (.getfield 12, 3) := by decide +kernel
theorem dX9_setInn_68 : decode cX9_setInn 68 = .ok (.getfield 47, 3) := by decide +kernel
theorem dX9_setInn_71 : decode cX9_setInn 71 = .ok (.invokevirtual 84, 3) := by decide +kernel
theorem dX9_setInn_74 : decode cX9_setInn 74 = .ok (.ireturn, 1) := by decide +kernel
set_option maxRecDepth 100000 in
set_option maxHeartbeats 4000000 in
theorem c_X9_setInn (l : Launch) (D : va_G) (cas : Nat → ClassId) (ad : Nat → Nat) (hi : zInj ad) {v1 : Int} {v2 : Int}  {r : Int} {M M' : Mem} (hf : f_X9_setInn v1 v2 M = some (r, M')) : zMi l D cas ad yX9_setInn cX9_setInn 3 (some .int) 5 111 [.ref (ad 0), .int (zI v1), .int (zI v2)] M r M' := by
  refine zbody (by decide) (Nat.le_of_ble_eq_true rfl) hi ?_
  intro p e s m args below meth c X hr hk0
  have X : zX p s m args c cX9_setInn "ShardTrails" 3 D cas ad (zA ad) := X
  unfold f_X9_setInn at hf
  refine (?_ : WW p l e (zrm 5 111) s m args below meth c D cas ad (zA ad) 3 0 0 (MQ below (zQi D cas ad r M') args s 0 0 (zA ad)) 0 [(0, .ref (ad 0)), (1, .int (zI v1)), (2, .int (zI v2))] [] M)
  refine R_aload_n X 0 dX9_setInn_0 rfl rfl ?_
  refine R_iload_n X 1 dX9_setInn_1 rfl rfl ?_
  obtain ⟨r1, M2, hc3, hf⟩ := zbnd_some hf
  refine R_callVi X (av := [.int (zI v1)]) (rest := []) (c_X9_isPasture l D cas ad hi hc3) zy_X9_isPasture lc_0 rfl rfl wm_X9_65 rfl rfl ⟨Nat.le_of_ble_eq_true rfl, Nat.le_of_ble_eq_true rfl⟩ ⟨Nat.le_refl _, Nat.le_refl _⟩ (Nat.le_of_ble_eq_true rfl) dX9_setInn_2 ?_
  obtain ⟨hq4, hf⟩ := zgrd hf
  refine R_if_ne X 10 hq4 dX9_setInn_5 (by decide) (fun c20 => ?_) (fun c20 => ?_)
  · have hf := zelse hf c20
    refine R_aload_n X 0 dX9_setInn_10 rfl rfl ?_
    refine R_getR X (j := 0) 1 1 lc_0 rfl inX9 (by decide) rfl rfl (by decide) rfl rfl wf_X9_12 dX9_setInn_11 ?_
    refine R_getR X (j := 5) 3 4 lc_1 rfl inX7 (by decide) rfl rfl (by decide) rfl rfl wf_X9_47 dX9_setInn_14 ?_
    refine R_getR X (j := 5) 5 9 lc_4 rfl inX2 (by decide) rfl rfl (by decide) rfl rfl wf_X9_76 dX9_setInn_17 ?_
    refine R_iload_n X 1 dX9_setInn_20 rfl rfl ?_
    obtain ⟨hq5, hf⟩ := zgrd hf
    refine R_zald X lc_9 hq5 dX9_setInn_21 ?_
    refine R_iload_n X 2 dX9_setInn_22 rfl rfl ?_
    obtain ⟨hq6, hf⟩ := zgrd hf
    obtain ⟨hq7, hf⟩ := zgrd hf
    refine R_icmp_ne X 29 ⟨hq6, hq7⟩ dX9_setInn_23 (by decide) (fun c19 => ?_) (fun c19 => ?_)
    · have hf := zelse hf c19
      refine R_aload_n X 0 dX9_setInn_29 rfl rfl ?_
      refine R_getR X (j := 3) 88 88 lc_0 rfl inX9 (by decide) rfl rfl (by decide) rfl rfl wf_X9_25 dX9_setInn_30 ?_
      refine R_aload_n X 0 dX9_setInn_33 rfl rfl ?_
      refine R_getR X (j := 0) 1 1 lc_0 rfl inX9 (by decide) rfl rfl (by decide) rfl rfl wf_X9_12 dX9_setInn_34 ?_
      obtain ⟨r8, M9, hc10, hf⟩ := zbnd_some hf
      refine R_callVv X (av := [.ref (ad 1)]) (rest := []) (c_X1_store l D cas ad hi lc_1 hc10) zy_X1_store lc_88 rfl rfl wm_X9_57 rfl rfl ⟨Nat.le_of_ble_eq_true rfl, Nat.le_of_ble_eq_true rfl⟩ ⟨Nat.le_refl _, Nat.le_refl _⟩ (Nat.le_of_ble_eq_true rfl) dX9_setInn_37 ?_
      refine R_aload_n X 0 dX9_setInn_40 rfl rfl ?_
      refine R_getR X (j := 0) 1 1 lc_0 rfl inX9 (by decide) rfl rfl (by decide) rfl rfl wf_X9_12 dX9_setInn_41 ?_
      refine R_getR X (j := 5) 3 4 lc_1 rfl inX7 (by decide) rfl rfl (by decide) rfl rfl wf_X9_47 dX9_setInn_44 ?_
      refine R_getR X (j := 5) 5 9 lc_4 rfl inX2 (by decide) rfl rfl (by decide) rfl rfl wf_X9_76 dX9_setInn_47 ?_
      refine R_iload_n X 1 dX9_setInn_50 rfl rfl ?_
      refine R_iload_n X 2 dX9_setInn_51 rfl rfl ?_
      obtain ⟨hq11, hf⟩ := zgrd hf
      obtain ⟨M12, eM12, hf⟩ := zlt_some hf
      refine R_zast X lc_9 hq5 hq11 dX9_setInn_52 ?_
      refine R_mem eM12 ?_
      refine R_aload_n X 0 dX9_setInn_53 rfl rfl ?_
      refine R_getR X (j := 0) 1 1 lc_0 rfl inX9 (by decide) rfl rfl (by decide) rfl rfl wf_X9_12 dX9_setInn_54 ?_
      refine R_getR X (j := 5) 3 4 lc_1 rfl inX7 (by decide) rfl rfl (by decide) rfl rfl wf_X9_47 dX9_setInn_57 ?_
      refine R_iload_n X 1 dX9_setInn_60 rfl rfl ?_
      obtain ⟨r13, M14, hc15, hf⟩ := zbnd_some hf
      refine R_callVv X (av := [.int (zI v1)]) (rest := []) (c_X2_forgetPosted l D cas ad hi lc_4 hc15) zy_X2_forgetPosted lc_4 rfl rfl wm_X9_80 rfl rfl ⟨Nat.le_of_ble_eq_true rfl, Nat.le_of_ble_eq_true rfl⟩ ⟨Nat.le_refl _, Nat.le_refl _⟩ (Nat.le_of_ble_eq_true rfl) dX9_setInn_61 ?_
      refine R_aload_n X 0 dX9_setInn_64 rfl rfl ?_
      refine R_getR X (j := 0) 1 1 lc_0 rfl inX9 (by decide) rfl rfl (by decide) rfl rfl wf_X9_12 dX9_setInn_65 ?_
      refine R_getR X (j := 5) 3 4 lc_1 rfl inX7 (by decide) rfl rfl (by decide) rfl rfl wf_X9_47 dX9_setInn_68 ?_
      obtain ⟨r16, M17, hc18, hf⟩ := zbnd_some hf
      refine R_callVi X (av := []) (rest := []) (c_X2_inns l D cas ad hi lc_4 hc18) zy_X2_inns lc_4 rfl rfl wm_X9_84 rfl rfl ⟨Nat.le_of_ble_eq_true rfl, Nat.le_of_ble_eq_true rfl⟩ ⟨Nat.le_refl _, Nat.le_refl _⟩ (Nat.le_of_ble_eq_true rfl) dX9_setInn_71 ?_
      exact R_iret X hr hk0 dX9_setInn_74 hf
    · have hf := zthen hf c19
      refine R_bipush X dX9_setInn_26 (by decide +kernel) ?_
      exact R_iret X hr hk0 dX9_setInn_28 hf
  · have hf := zthen hf c20
    refine R_iconst X dX9_setInn_8 ?_
    exact R_iret X hr hk0 dX9_setInn_9 hf
theorem dX9_setRoom_0 : decode cX9_setRoom 0 = .ok (.aload_n 0, 1) := by decide +kernel
theorem dX9_setRoom_1 : decode cX9_setRoom 1 = .ok (.iload_n 1, 1) := by decide +kernel
theorem dX9_setRoom_2 : decode cX9_setRoom 2 = .ok (.invokevirtual 65, 3) := by decide +kernel
theorem dX9_setRoom_5 : decode cX9_setRoom 5 = .ok (.ifCond .ne 5, 3) := by decide +kernel
theorem dX9_setRoom_8 : decode cX9_setRoom 8 = .ok (.iconst (-1), 1) := by decide +kernel
theorem dX9_setRoom_9 : decode cX9_setRoom 9 = .ok (.ireturn, 1) := by decide +kernel
theorem dX9_setRoom_10 : decode cX9_setRoom 10 = .ok (.iload_n 2, 1) := by decide +kernel
theorem dX9_setRoom_11 : decode cX9_setRoom 11 = .ok (.iconst 1, 1) := by decide +kernel
theorem dX9_setRoom_12 : decode cX9_setRoom 12 = .ok (.bipush 16, 2) := by decide +kernel
theorem dX9_setRoom_14 : decode cX9_setRoom 14 = .ok (.invokestatic 43, 3) := by decide +kernel
theorem dX9_setRoom_17 : decode cX9_setRoom 17 = .ok (.ifCond .ne 6, 3) := by decide +kernel
theorem dX9_setRoom_20 : decode cX9_setRoom 20 = .ok (.bipush (-2), 2) := by decide +kernel
theorem dX9_setRoom_22 : decode cX9_setRoom 22 = .ok (.ireturn, 1) := by decide +kernel
theorem dX9_setRoom_23 : decode cX9_setRoom 23 = .ok (.aload_n 0, 1) := by decide +kernel
theorem dX9_setRoom_24 : decode cX9_setRoom 24 = .ok (.getfield 12, 3) := by decide +kernel
theorem dX9_setRoom_27 : decode cX9_setRoom 27 = .ok (.getfield 47, 3) := by decide +kernel
theorem dX9_setRoom_30 : decode cX9_setRoom 30 = .ok (.getfield 69, 3) := by decide +kernel
theorem dX9_setRoom_33 : decode cX9_setRoom 33 = .ok (.iload_n 1, 1) := by decide +kernel
theorem dX9_setRoom_34 : decode cX9_setRoom 34 = .ok (.iaload, 1) := by decide +kernel
theorem dX9_setRoom_35 : decode cX9_setRoom 35 = .ok (.iload_n 2, 1) := by decide +kernel
theorem dX9_setRoom_36 : decode cX9_setRoom 36 = .ok (.if_icmp .le 6, 3) := by decide +kernel
theorem dX9_setRoom_39 : decode cX9_setRoom 39 = .ok (.bipush (-4), 2) := by decide +kernel
theorem dX9_setRoom_41 : decode cX9_setRoom 41 = .ok (.ireturn, 1) := by decide +kernel
theorem dX9_setRoom_42 : decode cX9_setRoom 42 = .ok (.aload_n 0, 1) := by decide +kernel
theorem dX9_setRoom_43 : decode cX9_setRoom 43 = .ok (.getfield 12, 3) := by decide +kernel
theorem dX9_setRoom_46 : decode cX9_setRoom 46 = .ok (.getfield 47, 3) := by decide +kernel
theorem dX9_setRoom_49 : decode cX9_setRoom 49 = .ok (.getfield 73, 3) := by decide +kernel
theorem dX9_setRoom_52 : decode cX9_setRoom 52 = .ok (.iload_n 1, 1) := by decide +kernel
theorem dX9_setRoom_53 : decode cX9_setRoom 53 = .ok (.iaload, 1) := by decide +kernel
theorem dX9_setRoom_54 : decode cX9_setRoom 54 = .ok (.istore_n 3, 1) := by decide +kernel
theorem dX9_setRoom_55 : decode cX9_setRoom 55 = .ok (.iload_n 3, 1) := by decide +kernel
theorem dX9_setRoom_56 : decode cX9_setRoom 56 = .ok (.iload_n 2, 1) := by decide +kernel
theorem dX9_setRoom_57 : decode cX9_setRoom 57 = .ok (.if_icmp .ne 6, 3) := by decide +kernel
theorem dX9_setRoom_60 : decode cX9_setRoom 60 = .ok (.bipush (-5), 2) := by decide +kernel
theorem dX9_setRoom_62 : decode cX9_setRoom 62 = .ok (.ireturn, 1) := by decide +kernel
theorem dX9_setRoom_63 : decode cX9_setRoom 63 = .ok (.aload_n 0, 1) := by decide +kernel
theorem dX9_setRoom_64 : decode cX9_setRoom 64 = .ok (.getfield 25, 3) := by decide +kernel
theorem dX9_setRoom_67 : decode cX9_setRoom 67 = .ok (.aload_n 0, 1) := by decide +kernel
theorem dX9_setRoom_68 : decode cX9_setRoom 68 = .ok (.getfield 12, 3) := by decide +kernel
theorem dX9_setRoom_71 : decode cX9_setRoom 71 = .ok (.invokevirtual 57, 3) := by decide +kernel
theorem dX9_setRoom_74 : decode cX9_setRoom 74 = .ok (.aload_n 0, 1) := by decide +kernel
theorem dX9_setRoom_75 : decode cX9_setRoom 75 = .ok (.getfield 12, 3) := by decide +kernel
theorem dX9_setRoom_78 : decode cX9_setRoom 78 = .ok (.getfield 47, 3) := by decide +kernel
theorem dX9_setRoom_81 : decode cX9_setRoom 81 = .ok (.getfield 73, 3) := by decide +kernel
theorem dX9_setRoom_84 : decode cX9_setRoom 84 = .ok (.iload_n 1, 1) := by decide +kernel
theorem dX9_setRoom_85 : decode cX9_setRoom 85 = .ok (.iload_n 2, 1) := by decide +kernel
theorem dX9_setRoom_86 : decode cX9_setRoom 86 = .ok (.iastore, 1) := by decide +kernel
theorem dX9_setRoom_87 : decode cX9_setRoom 87 = .ok (.iload_n 3, 1) := by decide +kernel
theorem dX9_setRoom_88 : decode cX9_setRoom 88 = .ok (.ireturn, 1) := by decide +kernel
set_option maxRecDepth 100000 in
set_option maxHeartbeats 4000000 in
theorem c_X9_setRoom (l : Launch) (D : va_G) (cas : Nat → ClassId) (ad : Nat → Nat) (hi : zInj ad) {v1 : Int} {v2 : Int}  {r : Int} {M M' : Mem} (hf : f_X9_setRoom v1 v2 M = some (r, M')) : zMi l D cas ad yX9_setRoom cX9_setRoom 4 (some .int) 5 111 [.ref (ad 0), .int (zI v1), .int (zI v2)] M r M' := by
  refine zbody (by decide) (Nat.le_of_ble_eq_true rfl) hi ?_
  intro p e s m args below meth c X hr hk0
  have X : zX p s m args c cX9_setRoom "ShardTrails" 4 D cas ad (zA ad) := X
  unfold f_X9_setRoom at hf
  refine (?_ : WW p l e (zrm 5 111) s m args below meth c D cas ad (zA ad) 4 0 0 (MQ below (zQi D cas ad r M') args s 0 0 (zA ad)) 0 [(0, .ref (ad 0)), (1, .int (zI v1)), (2, .int (zI v2))] [] M)
  refine R_aload_n X 0 dX9_setRoom_0 rfl rfl ?_
  refine R_iload_n X 1 dX9_setRoom_1 rfl rfl ?_
  obtain ⟨r1, M2, hc3, hf⟩ := zbnd_some hf
  refine R_callVi X (av := [.int (zI v1)]) (rest := []) (c_X9_isPasture l D cas ad hi hc3) zy_X9_isPasture lc_0 rfl rfl wm_X9_65 rfl rfl ⟨Nat.le_of_ble_eq_true rfl, Nat.le_of_ble_eq_true rfl⟩ ⟨Nat.le_refl _, Nat.le_refl _⟩ (Nat.le_of_ble_eq_true rfl) dX9_setRoom_2 ?_
  obtain ⟨hq4, hf⟩ := zgrd hf
  refine R_if_ne X 10 hq4 dX9_setRoom_5 (by decide) (fun c21 => ?_) (fun c21 => ?_)
  · have hf := zelse hf c21
    refine R_iload_n X 2 dX9_setRoom_10 rfl rfl ?_
    refine R_iconst X dX9_setRoom_11 ?_
    refine R_bipush X dX9_setRoom_12 (by decide +kernel) ?_
    obtain ⟨r5, M6, hc7, hf⟩ := zbnd_some hf
    refine R_callSi X (av := [.int (zI v2), .int (zI 1), .int (zI 16)]) (rest := []) (c_X9_isWithin l D cas ad hi hc7) zy_X9_isWithin wm_X9_43 rfl rfl ⟨Nat.le_of_ble_eq_true rfl, Nat.le_of_ble_eq_true rfl⟩ ⟨Nat.le_refl _, Nat.le_refl _⟩ (Nat.le_of_ble_eq_true rfl) dX9_setRoom_14 ?_
    obtain ⟨hq8, hf⟩ := zgrd hf
    refine R_if_ne X 23 hq8 dX9_setRoom_17 (by decide) (fun c20 => ?_) (fun c20 => ?_)
    · have hf := zelse hf c20
      refine R_aload_n X 0 dX9_setRoom_23 rfl rfl ?_
      refine R_getR X (j := 0) 1 1 lc_0 rfl inX9 (by decide) rfl rfl (by decide) rfl rfl wf_X9_12 dX9_setRoom_24 ?_
      refine R_getR X (j := 5) 3 4 lc_1 rfl inX7 (by decide) rfl rfl (by decide) rfl rfl wf_X9_47 dX9_setRoom_27 ?_
      refine R_getR X (j := 3) 3 7 lc_4 rfl inX2 (by decide) rfl rfl (by decide) rfl rfl wf_X9_69 dX9_setRoom_30 ?_
      refine R_iload_n X 1 dX9_setRoom_33 rfl rfl ?_
      obtain ⟨hq9, hf⟩ := zgrd hf
      refine R_iald X lc_7 hq9 dX9_setRoom_34 ?_
      refine R_iload_n X 2 dX9_setRoom_35 rfl rfl ?_
      obtain ⟨hq10, hf⟩ := zgrd hf
      obtain ⟨hq11, hf⟩ := zgrd hf
      refine R_icmp_le X 42 ⟨hq10, hq11⟩ dX9_setRoom_36 (by decide) (fun c19 => ?_) (fun c19 => ?_)
      · have hf := zthen hf c19
        refine R_aload_n X 0 dX9_setRoom_42 rfl rfl ?_
        refine R_getR X (j := 0) 1 1 lc_0 rfl inX9 (by decide) rfl rfl (by decide) rfl rfl wf_X9_12 dX9_setRoom_43 ?_
        refine R_getR X (j := 5) 3 4 lc_1 rfl inX7 (by decide) rfl rfl (by decide) rfl rfl wf_X9_47 dX9_setRoom_46 ?_
        refine R_getR X (j := 2) 2 6 lc_4 rfl inX2 (by decide) rfl rfl (by decide) rfl rfl wf_X9_73 dX9_setRoom_49 ?_
        refine R_iload_n X 1 dX9_setRoom_52 rfl rfl ?_
        refine R_iald X lc_6 hq9 dX9_setRoom_53 ?_
        obtain ⟨x12, ex12, hf⟩ := zlt_some hf
        refine R_istore_nX X (lv' := [(3, .int (zI x12)), (0, .ref (ad 0)), (1, .int (zI v1)), (2, .int (zI v2))]) ex12 dX9_setRoom_54 rfl (by decide) rfl ?_
        refine R_iload_n X 0 dX9_setRoom_55 rfl rfl ?_
        refine R_iload_n X 3 dX9_setRoom_56 rfl rfl ?_
        obtain ⟨hq13, hf⟩ := zgrd hf
        refine R_icmp_ne X 63 ⟨hq13, hq11⟩ dX9_setRoom_57 (by decide) (fun c18 => ?_) (fun c18 => ?_)
        · have hf := zelse hf c18
          refine R_aload_n X 1 dX9_setRoom_63 rfl rfl ?_
          refine R_getR X (j := 3) 88 88 lc_0 rfl inX9 (by decide) rfl rfl (by decide) rfl rfl wf_X9_25 dX9_setRoom_64 ?_
          refine R_aload_n X 1 dX9_setRoom_67 rfl rfl ?_
          refine R_getR X (j := 0) 1 1 lc_0 rfl inX9 (by decide) rfl rfl (by decide) rfl rfl wf_X9_12 dX9_setRoom_68 ?_
          obtain ⟨r14, M15, hc16, hf⟩ := zbnd_some hf
          refine R_callVv X (av := [.ref (ad 1)]) (rest := []) (c_X1_store l D cas ad hi lc_1 hc16) zy_X1_store lc_88 rfl rfl wm_X9_57 rfl rfl ⟨Nat.le_of_ble_eq_true rfl, Nat.le_of_ble_eq_true rfl⟩ ⟨Nat.le_refl _, Nat.le_refl _⟩ (Nat.le_of_ble_eq_true rfl) dX9_setRoom_71 ?_
          refine R_aload_n X 1 dX9_setRoom_74 rfl rfl ?_
          refine R_getR X (j := 0) 1 1 lc_0 rfl inX9 (by decide) rfl rfl (by decide) rfl rfl wf_X9_12 dX9_setRoom_75 ?_
          refine R_getR X (j := 5) 3 4 lc_1 rfl inX7 (by decide) rfl rfl (by decide) rfl rfl wf_X9_47 dX9_setRoom_78 ?_
          refine R_getR X (j := 2) 2 6 lc_4 rfl inX2 (by decide) rfl rfl (by decide) rfl rfl wf_X9_73 dX9_setRoom_81 ?_
          refine R_iload_n X 2 dX9_setRoom_84 rfl rfl ?_
          refine R_iload_n X 3 dX9_setRoom_85 rfl rfl ?_
          obtain ⟨M17, eM17, hf⟩ := zlt_some hf
          refine R_iast X lc_6 hq9 dX9_setRoom_86 ?_
          refine R_mem eM17 ?_
          refine R_iload_n X 0 dX9_setRoom_87 rfl rfl ?_
          exact R_iret X hr hk0 dX9_setRoom_88 hf
        · have hf := zthen hf c18
          refine R_bipush X dX9_setRoom_60 (by decide +kernel) ?_
          exact R_iret X hr hk0 dX9_setRoom_62 hf
      · have hf := zelse hf c19
        refine R_bipush X dX9_setRoom_39 (by decide +kernel) ?_
        exact R_iret X hr hk0 dX9_setRoom_41 hf
    · have hf := zthen hf c20
      refine R_bipush X dX9_setRoom_20 (by decide +kernel) ?_
      exact R_iret X hr hk0 dX9_setRoom_22 hf
  · have hf := zthen hf c21
    refine R_iconst X dX9_setRoom_8 ?_
    exact R_iret X hr hk0 dX9_setRoom_9 hf
theorem dX9_setSeason_0 : decode cX9_setSeason 0 = .ok (.iload_n 1, 1) := by decide +kernel
theorem dX9_setSeason_1 : decode cX9_setSeason 1 = .ok (.iconst 0, 1) := by decide +kernel
theorem dX9_setSeason_2 : decode cX9_setSeason 2 = .ok (.iconst 3, 1) := by decide +kernel
theorem dX9_setSeason_3 : decode cX9_setSeason 3 = .ok (.invokestatic 43, 3) := by decide +kernel
theorem dX9_setSeason_6 : decode cX9_setSeason 6 = .ok (.ifCond .eq 13, 3) := by decide +kernel
theorem dX9_setSeason_9 : decode cX9_setSeason 9 = .ok (.iload_n 2, 1) := by decide +kernel
theorem dX9_setSeason_10 : decode cX9_setSeason 10 = .ok (.iconst 0, 1) := by decide +kernel
theorem dX9_setSeason_11 : decode cX9_setSeason 11 = .ok (.bipush 90, 2) := by decide +kernel
theorem dX9_setSeason_13 : decode cX9_setSeason 13 = .ok (.invokestatic 43, 3) := by decide +kernel
theorem dX9_setSeason_16 : decode cX9_setSeason 16 = .ok (.ifCond .ne 6, 3) := by decide +kernel
theorem dX9_setSeason_19 : decode cX9_setSeason 19 = .ok (.bipush (-2), 2) := by decide +kernel
theorem dX9_setSeason_21 : decode cX9_setSeason 21 = .ok (.ireturn, 1) := by decide +kernel
theorem dX9_setSeason_22 : decode cX9_setSeason 22 = .ok (.aload_n 0, 1) := by decide +kernel
theorem dX9_setSeason_23 : decode cX9_setSeason 23 = .ok (.getfield 12, 3) := by decide +kernel
theorem dX9_setSeason_26 : decode cX9_setSeason 26 = .ok (.getfield 109, 3) := by decide +kernel
theorem dX9_setSeason_29 : decode cX9_setSeason 29 = .ok (.iload_n 1, 1) := by decide +kernel
theorem dX9_setSeason_30 : decode cX9_setSeason 30 = .ok (.iaload, 1) := by decide +kernel
theorem dX9_setSeason_31 : decode cX9_setSeason 31 = .ok (.istore_n 3, 1) := by decide +kernel
theorem dX9_setSeason_32 : decode cX9_setSeason 32 = .ok (.iload_n 3, 1) := by decide +kernel
theorem dX9_setSeason_33 : decode cX9_setSeason 33 = .ok (.iload_n 2, 1) := by decide +kernel
theorem dX9_setSeason_34 : decode cX9_setSeason 34 = .ok (.if_icmp .ne 6, 3) := by decide +kernel
theorem dX9_setSeason_37 : decode cX9_setSeason 37 = .ok (.bipush (-5), 2) := by decide +kernel
theorem dX9_setSeason_39 : decode cX9_setSeason 39 = .ok (.ireturn, 1) := by decide +kernel
theorem dX9_setSeason_40 : decode cX9_setSeason 40 = .ok (.aload_n 0, 1) := by decide +kernel
theorem dX9_setSeason_41 : decode cX9_setSeason 41 = .ok (.getfield 25, 3) := by decide +kernel
theorem dX9_setSeason_44 : decode cX9_setSeason 44 = .ok (.aload_n 0, 1) := by decide +kernel
theorem dX9_setSeason_45 : decode cX9_setSeason 45 = .ok (.getfield 12, 3) := by decide +kernel
theorem dX9_setSeason_48 : decode cX9_setSeason 48 = .ok (.invokevirtual 57, 3) := by decide +kernel
theorem dX9_setSeason_51 : decode cX9_setSeason 51 = .ok (.aload_n 0, 1) := by decide +kernel
theorem dX9_setSeason_52 : decode cX9_setSeason 52 = .ok (.getfield 12, 3) := by decide +kernel
theorem dX9_setSeason_55 : decode cX9_setSeason 55 = .ok (.getfield 109, 3) := by decide +kernel
theorem dX9_setSeason_58 : decode cX9_setSeason 58 = .ok (.iload_n 1, 1) := by decide +kernel
theorem dX9_setSeason_59 : decode cX9_setSeason 59 = .ok (.iload_n 2, 1) := by decide +kernel
theorem dX9_setSeason_60 : decode cX9_setSeason 60 = .ok (.iastore, 1) := by decide +kernel
theorem dX9_setSeason_61 : decode cX9_setSeason 61 = .ok (.iload_n 3, 1) := by decide +kernel
theorem dX9_setSeason_62 : decode cX9_setSeason 62 = .ok (.ireturn, 1) := by decide +kernel
set_option maxRecDepth 100000 in
set_option maxHeartbeats 4000000 in
theorem c_X9_setSeason (l : Launch) (D : va_G) (cas : Nat → ClassId) (ad : Nat → Nat) (hi : zInj ad) {v1 : Int} {v2 : Int}  {r : Int} {M M' : Mem} (hf : f_X9_setSeason v1 v2 M = some (r, M')) : zMi l D cas ad yX9_setSeason cX9_setSeason 4 (some .int) 5 111 [.ref (ad 0), .int (zI v1), .int (zI v2)] M r M' := by
  refine zbody (by decide) (Nat.le_of_ble_eq_true rfl) hi ?_
  intro p e s m args below meth c X hr hk0
  have X : zX p s m args c cX9_setSeason "ShardTrails" 4 D cas ad (zA ad) := X
  have hB19 : ∀ (M : Mem), f_X9_setSeason_b19 M = some (r, M') → WW p l e (zrm 5 111) s m args below meth c D cas ad (zA ad) 4 0 0 (MQ below (zQi D cas ad r M') args s 0 0 (zA ad)) 19 [] [] M := by
    intro M hf
    unfold f_X9_setSeason_b19 at hf
    refine R_bipush X dX9_setSeason_19 (by decide +kernel) ?_
    exact R_iret X hr hk0 dX9_setSeason_21 hf
  unfold f_X9_setSeason at hf
  refine (?_ : WW p l e (zrm 5 111) s m args below meth c D cas ad (zA ad) 4 0 0 (MQ below (zQi D cas ad r M') args s 0 0 (zA ad)) 0 [(0, .ref (ad 0)), (1, .int (zI v1)), (2, .int (zI v2))] [] M)
  refine R_iload_n X 1 dX9_setSeason_0 rfl rfl ?_
  refine R_iconst X dX9_setSeason_1 ?_
  refine R_iconst X dX9_setSeason_2 ?_
  obtain ⟨r1, M2, hc3, hf⟩ := zbnd_some hf
  refine R_callSi X (av := [.int (zI v1), .int (zI 0), .int (zI 3)]) (rest := []) (c_X9_isWithin l D cas ad hi hc3) zy_X9_isWithin wm_X9_43 rfl rfl ⟨Nat.le_of_ble_eq_true rfl, Nat.le_of_ble_eq_true rfl⟩ ⟨Nat.le_refl _, Nat.le_refl _⟩ (Nat.le_of_ble_eq_true rfl) dX9_setSeason_3 ?_
  obtain ⟨hq4, hf⟩ := zgrd hf
  refine R_if_eq X 19 hq4 dX9_setSeason_6 (by decide) (fun c19 => ?_) (fun c19 => ?_)
  · have hf := zthen hf c19
    exact R_sub [] rfl (hB19 M2 hf)
  · have hf := zelse hf c19
    refine R_iload_n X 2 dX9_setSeason_9 rfl rfl ?_
    refine R_iconst X dX9_setSeason_10 ?_
    refine R_bipush X dX9_setSeason_11 (by decide +kernel) ?_
    obtain ⟨r5, M6, hc7, hf⟩ := zbnd_some hf
    refine R_callSi X (av := [.int (zI v2), .int (zI 0), .int (zI 90)]) (rest := []) (c_X9_isWithin l D cas ad hi hc7) zy_X9_isWithin wm_X9_43 rfl rfl ⟨Nat.le_of_ble_eq_true rfl, Nat.le_of_ble_eq_true rfl⟩ ⟨Nat.le_refl _, Nat.le_refl _⟩ (Nat.le_of_ble_eq_true rfl) dX9_setSeason_13 ?_
    obtain ⟨hq8, hf⟩ := zgrd hf
    refine R_if_ne X 22 hq8 dX9_setSeason_16 (by decide) (fun c18 => ?_) (fun c18 => ?_)
    · have hf := zelse hf c18
      refine R_aload_n X 0 dX9_setSeason_22 rfl rfl ?_
      refine R_getR X (j := 0) 1 1 lc_0 rfl inX9 (by decide) rfl rfl (by decide) rfl rfl wf_X9_12 dX9_setSeason_23 ?_
      refine R_getR X (j := 4) 2 3 lc_1 rfl inX7 (by decide) rfl rfl (by decide) rfl rfl wf_X9_109 dX9_setSeason_26 ?_
      refine R_iload_n X 1 dX9_setSeason_29 rfl rfl ?_
      obtain ⟨hq9, hf⟩ := zgrd hf
      refine R_iald X lc_3 hq9 dX9_setSeason_30 ?_
      obtain ⟨x10, ex10, hf⟩ := zlt_some hf
      refine R_istore_nX X (lv' := [(3, .int (zI x10)), (0, .ref (ad 0)), (1, .int (zI v1)), (2, .int (zI v2))]) ex10 dX9_setSeason_31 rfl (by decide) rfl ?_
      refine R_iload_n X 0 dX9_setSeason_32 rfl rfl ?_
      refine R_iload_n X 3 dX9_setSeason_33 rfl rfl ?_
      obtain ⟨hq11, hf⟩ := zgrd hf
      obtain ⟨hq12, hf⟩ := zgrd hf
      refine R_icmp_ne X 40 ⟨hq11, hq12⟩ dX9_setSeason_34 (by decide) (fun c17 => ?_) (fun c17 => ?_)
      · have hf := zelse hf c17
        refine R_aload_n X 1 dX9_setSeason_40 rfl rfl ?_
        refine R_getR X (j := 3) 88 88 lc_0 rfl inX9 (by decide) rfl rfl (by decide) rfl rfl wf_X9_25 dX9_setSeason_41 ?_
        refine R_aload_n X 1 dX9_setSeason_44 rfl rfl ?_
        refine R_getR X (j := 0) 1 1 lc_0 rfl inX9 (by decide) rfl rfl (by decide) rfl rfl wf_X9_12 dX9_setSeason_45 ?_
        obtain ⟨r13, M14, hc15, hf⟩ := zbnd_some hf
        refine R_callVv X (av := [.ref (ad 1)]) (rest := []) (c_X1_store l D cas ad hi lc_1 hc15) zy_X1_store lc_88 rfl rfl wm_X9_57 rfl rfl ⟨Nat.le_of_ble_eq_true rfl, Nat.le_of_ble_eq_true rfl⟩ ⟨Nat.le_refl _, Nat.le_refl _⟩ (Nat.le_of_ble_eq_true rfl) dX9_setSeason_48 ?_
        refine R_aload_n X 1 dX9_setSeason_51 rfl rfl ?_
        refine R_getR X (j := 0) 1 1 lc_0 rfl inX9 (by decide) rfl rfl (by decide) rfl rfl wf_X9_12 dX9_setSeason_52 ?_
        refine R_getR X (j := 4) 2 3 lc_1 rfl inX7 (by decide) rfl rfl (by decide) rfl rfl wf_X9_109 dX9_setSeason_55 ?_
        refine R_iload_n X 2 dX9_setSeason_58 rfl rfl ?_
        refine R_iload_n X 3 dX9_setSeason_59 rfl rfl ?_
        obtain ⟨M16, eM16, hf⟩ := zlt_some hf
        refine R_iast X lc_3 hq9 dX9_setSeason_60 ?_
        refine R_mem eM16 ?_
        refine R_iload_n X 0 dX9_setSeason_61 rfl rfl ?_
        exact R_iret X hr hk0 dX9_setSeason_62 hf
      · have hf := zthen hf c17
        refine R_bipush X dX9_setSeason_37 (by decide +kernel) ?_
        exact R_iret X hr hk0 dX9_setSeason_39 hf
    · have hf := zthen hf c18
      exact R_sub [] rfl (hB19 M6 hf)
theorem dX0_placeByHeat_0 : decode cX0_placeByHeat 0 = .ok (.iconst 0, 1) := by decide +kernel
theorem dX0_placeByHeat_1 : decode cX0_placeByHeat 1 = .ok (.istore_n 2, 1) := by decide +kernel
theorem dX0_placeByHeat_2 : decode cX0_placeByHeat 2 = .ok (.iconst 0, 1) := by decide +kernel
theorem dX0_placeByHeat_3 : decode cX0_placeByHeat 3 = .ok (.istore_n 3, 1) := by decide +kernel
theorem dX0_placeByHeat_4 : decode cX0_placeByHeat 4 = .ok (.iload_n 3, 1) := by decide +kernel
theorem dX0_placeByHeat_5 : decode cX0_placeByHeat 5 = .ok (.bipush 16, 2) := by decide +kernel
theorem dX0_placeByHeat_7 : decode cX0_placeByHeat 7 = .ok (.if_icmp .ge 21, 3) := by decide +kernel
theorem dX0_placeByHeat_10 : decode cX0_placeByHeat 10 = .ok (.aload_n 0, 1) := by decide +kernel
theorem dX0_placeByHeat_11 : decode cX0_placeByHeat 11 = .ok (.iload_n 3, 1) := by decide +kernel
theorem dX0_placeByHeat_12 : decode cX0_placeByHeat 12 = .ok (.iload_n 1, 1) := by decide +kernel
theorem dX0_placeByHeat_13 : decode cX0_placeByHeat 13 = .ok (.invokevirtual 34, 3) := by decide +kernel
theorem dX0_placeByHeat_16 : decode cX0_placeByHeat 16 = .ok (.ifCond .eq 6, 3) := by decide +kernel
theorem dX0_placeByHeat_19 : decode cX0_placeByHeat 19 = .ok (.iinc 2 1, 3) := by decide +kernel
theorem dX0_placeByHeat_22 : decode cX0_placeByHeat 22 = .ok (.iinc 3 1, 3) := by decide +kernel
theorem dX0_placeByHeat_25 : decode cX0_placeByHeat 25 = .ok (.goto (-21), 3) := by decide +kernel
theorem dX0_placeByHeat_28 : decode cX0_placeByHeat 28 = .ok (.iload_n 2, 1) := by decide +kernel
theorem dX0_placeByHeat_29 : decode cX0_placeByHeat 29 = .ok (.ireturn, 1) := by decide +kernel
set_option maxRecDepth 100000 in
set_option maxHeartbeats 4000000 in
theorem c_X0_placeByHeat (l : Launch) (D : va_G) (cas : Nat → ClassId) (ad : Nat → Nat) (hi : zInj ad) {k : Nat} {v1 : Int} (hk : k < zN ∧ lay k = (0, 0)) {r : Int} {M M' : Mem} (hf : f_X0_placeByHeat k v1 M = some (r, M')) : zMi l D cas ad yX0_placeByHeat cX0_placeByHeat 4 (some .int) 1 22 [.ref (ad k), .int (zI v1)] M r M' := by
  refine zbody (by decide) (Nat.le_of_ble_eq_true rfl) hi ?_
  intro p e s m args below meth c X hr hk0
  have X : zX p s m args c cX0_placeByHeat "ShardTrails$Herd" 4 D cas ad (zA ad) := X
  have hB22 : ∀ (g4 : Int → Int → Int → Mem → Option (Int × Mem)) (hg4 : ∀ (v1 v2 v3 : Int) (M : Mem), g4 v1 v2 v3 M = some (r, M') → WW p l e (zrm 1 22) s m args below meth c D cas ad (zA ad) 4 0 0 (MQ below (zQi D cas ad r M') args s 0 0 (zA ad)) 4 [(0, .ref (ad k)), (1, .int (zI v1)), (2, .int (zI v2)), (3, .int (zI v3))] [] M) (v1 v2 v3 : Int) (M : Mem), f_X0_placeByHeat_b22 g4 k v1 v2 v3 M = some (r, M') → WW p l e (zrm 1 22) s m args below meth c D cas ad (zA ad) 4 0 0 (MQ below (zQi D cas ad r M') args s 0 0 (zA ad)) 22 [(0, .ref (ad k)), (1, .int (zI v1)), (2, .int (zI v2)), (3, .int (zI v3))] [] M := by
    intro g4 hg4 v1 v2 v3 M hf
    unfold f_X0_placeByHeat_b22 at hf
    refine R_iinc X (lv' := [(3, .int (zI (v3 + 1))), (0, .ref (ad k)), (1, .int (zI v1)), (2, .int (zI v2))]) 3 dX0_placeByHeat_22 rfl (by decide) rfl ?_
    refine R_goto X 4 dX0_placeByHeat_25 (by decide) ?_
    exact R_sub [1, 2, 3, 0] rfl (hg4 v1 v2 (v3 + 1) M hf)
  have hB4 : ∀ (n : Nat) (v1 v2 v3 : Int) (M : Mem), f_X0_placeByHeat_b4 k n v1 v2 v3 M = some (r, M') → WW p l e (zrm 1 22) s m args below meth c D cas ad (zA ad) 4 0 0 (MQ below (zQi D cas ad r M') args s 0 0 (zA ad)) 4 [(0, .ref (ad k)), (1, .int (zI v1)), (2, .int (zI v2)), (3, .int (zI v3))] [] M := by
    intro n
    induction n with
    | zero => intro v1 v2 v3 M hf; exact absurd hf (by unfold f_X0_placeByHeat_b4; simp)
    | succ n ih =>
      intro v1 v2 v3 M hf
      unfold f_X0_placeByHeat_b4 at hf
      refine R_iload_n X 3 dX0_placeByHeat_4 rfl rfl ?_
      refine R_bipush X dX0_placeByHeat_5 (by decide +kernel) ?_
      obtain ⟨hq1, hf⟩ := zgrd hf
      refine R_icmp_ge X 28 ⟨hq1, (by decide)⟩ dX0_placeByHeat_7 (by decide) (fun c7 => ?_) (fun c7 => ?_)
      · have hf := zthen hf c7
        refine R_iload_n X 2 dX0_placeByHeat_28 rfl rfl ?_
        exact R_iret X hr hk0 dX0_placeByHeat_29 hf
      · have hf := zelse hf c7
        refine R_aload_n X 0 dX0_placeByHeat_10 rfl rfl ?_
        refine R_iload_n X 3 dX0_placeByHeat_11 rfl rfl ?_
        refine R_iload_n X 1 dX0_placeByHeat_12 rfl rfl ?_
        obtain ⟨r2, M3, hc4, hf⟩ := zbnd_some hf
        refine R_callVi X (av := [.int (zI v3), .int (zI v1)]) (rest := []) (c_X0_isAskedBefore l D cas ad hi hk hc4) zy_X0_isAskedBefore hk rfl rfl wm_X0_34 rfl rfl ⟨Nat.le_of_ble_eq_true rfl, Nat.le_of_ble_eq_true rfl⟩ ⟨Nat.le_refl _, Nat.le_refl _⟩ (Nat.le_of_ble_eq_true rfl) dX0_placeByHeat_13 ?_
        obtain ⟨hq5, hf⟩ := zgrd hf
        refine R_if_eq X 22 hq5 dX0_placeByHeat_16 (by decide) (fun c6 => ?_) (fun c6 => ?_)
        · have hf := zthen hf c6
          exact R_sub [0, 1, 2, 3] rfl (hB22 (f_X0_placeByHeat_b4 k n) ih v1 v2 v3 M3 hf)
        · have hf := zelse hf c6
          refine R_iinc X (lv' := [(2, .int (zI (v2 + 1))), (0, .ref (ad k)), (1, .int (zI v1)), (3, .int (zI v3))]) 2 dX0_placeByHeat_19 rfl (by decide) rfl ?_
          exact R_sub [1, 2, 0, 3] rfl (hB22 (f_X0_placeByHeat_b4 k n) ih v1 (v2 + 1) v3 M3 hf)
  unfold f_X0_placeByHeat at hf
  refine (?_ : WW p l e (zrm 1 22) s m args below meth c D cas ad (zA ad) 4 0 0 (MQ below (zQi D cas ad r M') args s 0 0 (zA ad)) 0 [(0, .ref (ad k)), (1, .int (zI v1))] [] M)
  refine R_iconst X dX0_placeByHeat_0 ?_
  refine R_istore_n X (lv' := [(2, .int (zI 0)), (0, .ref (ad k)), (1, .int (zI v1))]) dX0_placeByHeat_1 rfl (by decide) rfl ?_
  refine R_iconst X dX0_placeByHeat_2 ?_
  refine R_istore_n X (lv' := [(3, .int (zI 0)), (2, .int (zI 0)), (0, .ref (ad k)), (1, .int (zI v1))]) dX0_placeByHeat_3 rfl (by decide) rfl ?_
  exact R_sub [2, 3, 1, 0] rfl (hB4 100000 v1 0 0 M hf)

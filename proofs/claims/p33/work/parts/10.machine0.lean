theorem dX9_isWithin_0 : decode cX9_isWithin 0 = .ok (.iload_n 0, 1) := by decide +kernel
theorem dX9_isWithin_1 : decode cX9_isWithin 1 = .ok (.iload_n 1, 1) := by decide +kernel
theorem dX9_isWithin_2 : decode cX9_isWithin 2 = .ok (.if_icmp .lt 12, 3) := by decide +kernel
theorem dX9_isWithin_5 : decode cX9_isWithin 5 = .ok (.iload_n 0, 1) := by decide +kernel
theorem dX9_isWithin_6 : decode cX9_isWithin 6 = .ok (.iload_n 2, 1) := by decide +kernel
theorem dX9_isWithin_7 : decode cX9_isWithin 7 = .ok (.if_icmp .gt 7, 3) := by decide +kernel
theorem dX9_isWithin_10 : decode cX9_isWithin 10 = .ok (.iconst 1, 1) := by decide +kernel
theorem dX9_isWithin_11 : decode cX9_isWithin 11 = .ok (.goto 4, 3) := by decide +kernel
theorem dX9_isWithin_14 : decode cX9_isWithin 14 = .ok (.iconst 0, 1) := by decide +kernel
theorem dX9_isWithin_15 : decode cX9_isWithin 15 = .ok (.ireturn, 1) := by decide +kernel
set_option maxRecDepth 100000 in
set_option maxHeartbeats 4000000 in
theorem c_X9_isWithin (l : Launch) (D : va_G) (cas : Nat → ClassId) (ad : Nat → Nat) (hi : zInj ad) {v0 : Int} {v1 : Int} {v2 : Int}  {r : Int} {M M' : Mem} (hf : f_X9_isWithin v0 v1 v2 M = some (r, M')) : zMi l D cas ad yX9_isWithin cX9_isWithin 3 (some .boolean) 0 0 [.int (zI v0), .int (zI v1), .int (zI v2)] M r M' := by
  refine zbody (by decide) (Nat.le_of_ble_eq_true rfl) hi ?_
  intro p e s m args below meth c X hr hk0
  have X : zX p s m args c cX9_isWithin "ShardTrails" 3 D cas ad (zA ad) := X
  have hB15 : ∀ (t1 : Int) (M : Mem), f_X9_isWithin_b15 t1 M = some (r, M') → WW p l e (zrm 0 0) s m args below meth c D cas ad (zA ad) 3 0 0 (MQ below (zQi D cas ad r M') args s 0 0 (zA ad)) 15 [] [.int (zI t1)] M := by
    intro t1 M hf
    unfold f_X9_isWithin_b15 at hf
    obtain ⟨hq6, hf⟩ := zgrd hf
    exact R_zret X hq6 hr hk0 dX9_isWithin_15 hf
  have hB14 : ∀ (M : Mem), f_X9_isWithin_b14 M = some (r, M') → WW p l e (zrm 0 0) s m args below meth c D cas ad (zA ad) 3 0 0 (MQ below (zQi D cas ad r M') args s 0 0 (zA ad)) 14 [] [] M := by
    intro M hf
    unfold f_X9_isWithin_b14 at hf
    refine R_iconst X dX9_isWithin_14 ?_
    exact R_sub [] rfl (hB15 0 M hf)
  unfold f_X9_isWithin at hf
  refine (?_ : WW p l e (zrm 0 0) s m args below meth c D cas ad (zA ad) 3 0 0 (MQ below (zQi D cas ad r M') args s 0 0 (zA ad)) 0 [(0, .int (zI v0)), (1, .int (zI v1)), (2, .int (zI v2))] [] M)
  refine R_iload_n X 0 dX9_isWithin_0 rfl rfl ?_
  refine R_iload_n X 1 dX9_isWithin_1 rfl rfl ?_
  obtain ⟨hq1, hf⟩ := zgrd hf
  obtain ⟨hq2, hf⟩ := zgrd hf
  refine R_icmp_lt X 14 ⟨hq1, hq2⟩ dX9_isWithin_2 (by decide) (fun c5 => ?_) (fun c5 => ?_)
  · have hf := zthen hf c5
    exact R_sub [] rfl (hB14 M hf)
  · have hf := zelse hf c5
    refine R_iload_n X 0 dX9_isWithin_5 rfl rfl ?_
    refine R_iload_n X 2 dX9_isWithin_6 rfl rfl ?_
    obtain ⟨hq3, hf⟩ := zgrd hf
    refine R_icmp_gt X 14 ⟨hq1, hq3⟩ dX9_isWithin_7 (by decide) (fun c4 => ?_) (fun c4 => ?_)
    · have hf := zthen hf c4
      exact R_sub [] rfl (hB14 M hf)
    · have hf := zelse hf c4
      refine R_iconst X dX9_isWithin_10 ?_
      refine R_goto X 15 dX9_isWithin_11 (by decide) ?_
      exact R_sub [] rfl (hB15 1 M hf)
theorem dX9_copyRow_0 : decode cX9_copyRow 0 = .ok (.aload_n 0, 1) := by decide +kernel
theorem dX9_copyRow_1 : decode cX9_copyRow 1 = .ok (.iconst 0, 1) := by decide +kernel
theorem dX9_copyRow_2 : decode cX9_copyRow 2 = .ok (.aload_n 1, 1) := by decide +kernel
theorem dX9_copyRow_3 : decode cX9_copyRow 3 = .ok (.iconst 0, 1) := by decide +kernel
theorem dX9_copyRow_4 : decode cX9_copyRow 4 = .ok (.aload_n 0, 1) := by decide +kernel
theorem dX9_copyRow_5 : decode cX9_copyRow 5 = .ok (.arraylength, 1) := by decide +kernel
theorem dX9_copyRow_6 : decode cX9_copyRow 6 = .ok (.aload_n 1, 1) := by decide +kernel
theorem dX9_copyRow_7 : decode cX9_copyRow 7 = .ok (.arraylength, 1) := by decide +kernel
theorem dX9_copyRow_8 : decode cX9_copyRow 8 = .ok (.invokestatic 318, 3) := by decide +kernel
theorem dX9_copyRow_11 : decode cX9_copyRow 11 = .ok (.invokestatic 323, 3) := by decide +kernel
theorem dX9_copyRow_14 : decode cX9_copyRow 14 = .ok (.return_, 1) := by decide +kernel
set_option maxRecDepth 100000 in
set_option maxHeartbeats 4000000 in
theorem c_X9_copyRow (l : Launch) (D : va_G) (cas : Nat → ClassId) (ad : Nat → Nat) (hi : zInj ad) {a0 : Nat} {n0 : Nat} {a1 : Nat} {n1 : Nat}  (ha0 : a0 < zN ∧ lay a0 = (1, n0)) (ha1 : a1 < zN ∧ lay a1 = (1, n1)) {r : Int} {M M' : Mem} (hf : f_X9_copyRow a0 n0 a1 n1 M = some (r, M')) : zMv l D cas ad yX9_copyRow cX9_copyRow 2 1 26 [.ref (ad a0), .ref (ad a1)] M M' := by
  refine zbody (by decide) (Nat.le_of_ble_eq_true rfl) hi ?_
  intro p e s m args below meth c X hr hk0
  have X : zX p s m args c cX9_copyRow "ShardTrails" 2 D cas ad (zA ad) := X
  unfold f_X9_copyRow at hf
  refine (?_ : WW p l e (zrm 1 26) s m args below meth c D cas ad (zA ad) 2 0 0 (MQ below (zQv D cas ad M') args s 0 0 (zA ad)) 0 [(0, .ref (ad a0)), (1, .ref (ad a1))] [] M)
  refine R_aload_n X 0 dX9_copyRow_0 rfl rfl ?_
  refine R_iconst X dX9_copyRow_1 ?_
  refine R_aload_n X 1 dX9_copyRow_2 rfl rfl ?_
  refine R_iconst X dX9_copyRow_3 ?_
  refine R_aload_n X 0 dX9_copyRow_4 rfl rfl ?_
  refine R_alen X ha0 dX9_copyRow_5 ?_
  refine R_aload_n X 1 dX9_copyRow_6 rfl rfl ?_
  refine R_alen X ha1 dX9_copyRow_7 ?_
  obtain ⟨hq1, hf⟩ := zgrd hf
  obtain ⟨hq2, hf⟩ := zgrd hf
  refine R_mmin X ⟨hq1, hq2⟩ wm_X9_318 (by decide) (Nat.le_of_ble_eq_true rfl) ⟨Nat.le_refl _, Nat.le_refl _⟩ dX9_copyRow_8 zm_min ?_
  obtain ⟨hq3, hf⟩ := zgrd hf
  obtain ⟨M4, eM4, hf⟩ := zlt_some hf
  refine R_copy X ha0 ha1 hq3 wm_X9_323 zcp_n zcp_s zcp_i (by decide) (Nat.le_of_ble_eq_true rfl) dX9_copyRow_11 ?_
  refine R_mem eM4 ?_
  exact R_vret X hr hk0 dX9_copyRow_14 hf
theorem dX0_copyFrom_0 : decode cX0_copyFrom 0 = .ok (.aload_n 1, 1) := by decide +kernel
theorem dX0_copyFrom_1 : decode cX0_copyFrom 1 = .ok (.getfield 9, 3) := by decide +kernel
theorem dX0_copyFrom_4 : decode cX0_copyFrom 4 = .ok (.aload_n 0, 1) := by decide +kernel
theorem dX0_copyFrom_5 : decode cX0_copyFrom 5 = .ok (.getfield 9, 3) := by decide +kernel
theorem dX0_copyFrom_8 : decode cX0_copyFrom 8 = .ok (.invokestatic 24, 3) := by decide +kernel
theorem dX0_copyFrom_11 : decode cX0_copyFrom 11 = .ok (.aload_n 1, 1) := by decide +kernel
theorem dX0_copyFrom_12 : decode cX0_copyFrom 12 = .ok (.getfield 15, 3) := by decide +kernel
theorem dX0_copyFrom_15 : decode cX0_copyFrom 15 = .ok (.aload_n 0, 1) := by decide +kernel
theorem dX0_copyFrom_16 : decode cX0_copyFrom 16 = .ok (.getfield 15, 3) := by decide +kernel
theorem dX0_copyFrom_19 : decode cX0_copyFrom 19 = .ok (.invokestatic 24, 3) := by decide +kernel
theorem dX0_copyFrom_22 : decode cX0_copyFrom 22 = .ok (.aload_n 1, 1) := by decide +kernel
theorem dX0_copyFrom_23 : decode cX0_copyFrom 23 = .ok (.getfield 18, 3) := by decide +kernel
theorem dX0_copyFrom_26 : decode cX0_copyFrom 26 = .ok (.aload_n 0, 1) := by decide +kernel
theorem dX0_copyFrom_27 : decode cX0_copyFrom 27 = .ok (.getfield 18, 3) := by decide +kernel
theorem dX0_copyFrom_30 : decode cX0_copyFrom 30 = .ok (.invokestatic 24, 3) := by decide +kernel
theorem dX0_copyFrom_33 : decode cX0_copyFrom 33 = .ok (.aload_n 1, 1) := by decide +kernel
theorem dX0_copyFrom_34 : decode cX0_copyFrom 34 = .ok (.getfield 21, 3) := by decide +kernel
theorem dX0_copyFrom_37 : decode cX0_copyFrom 37 = .ok (.aload_n 0, 1) := by decide +kernel
theorem dX0_copyFrom_38 : decode cX0_copyFrom 38 = .ok (.getfield 21, 3) := by decide +kernel
theorem dX0_copyFrom_41 : decode cX0_copyFrom 41 = .ok (.invokestatic 24, 3) := by decide +kernel
theorem dX0_copyFrom_44 : decode cX0_copyFrom 44 = .ok (.return_, 1) := by decide +kernel
set_option maxRecDepth 100000 in
set_option maxHeartbeats 4000000 in
theorem c_X0_copyFrom (l : Launch) (D : va_G) (cas : Nat → ClassId) (ad : Nat → Nat) (hi : zInj ad) {k : Nat} {k1 : Nat}  (hk : k < zN ∧ lay k = (0, 0)) (hk1 : k1 < zN ∧ lay k1 = (0, 0)) {r : Int} {M M' : Mem} (hf : f_X0_copyFrom k k1 M = some (r, M')) : zMv l D cas ad yX0_copyFrom cX0_copyFrom 2 2 47 [.ref (ad k), .ref (ad k1)] M M' := by
  refine zbody (by decide) (Nat.le_of_ble_eq_true rfl) hi ?_
  intro p e s m args below meth c X hr hk0
  have X : zX p s m args c cX0_copyFrom "ShardTrails$Herd" 2 D cas ad (zA ad) := X
  unfold f_X0_copyFrom at hf
  refine (?_ : WW p l e (zrm 2 47) s m args below meth c D cas ad (zA ad) 2 0 0 (MQ below (zQv D cas ad M') args s 0 0 (zA ad)) 0 [(0, .ref (ad k)), (1, .ref (ad k1))] [] M)
  refine R_aload_n X 1 dX0_copyFrom_0 rfl rfl ?_
  have hp1 : k1 + 1 < zN ∧ lay (k1 + 1) = (1, 16) := pt_0_0 _ hk1.1 hk1.2
  refine R_getR X (j := 0) 1 (k1 + 1) hk1 rfl inX0 (by decide) rfl rfl (by decide) rfl rfl wf_X0_9 dX0_copyFrom_1 ?_
  refine R_aload_n X 0 dX0_copyFrom_4 rfl rfl ?_
  have hp2 : k + 1 < zN ∧ lay (k + 1) = (1, 16) := pt_0_0 _ hk.1 hk.2
  refine R_getR X (j := 0) 1 (k + 1) hk rfl inX0 (by decide) rfl rfl (by decide) rfl rfl wf_X0_9 dX0_copyFrom_5 ?_
  obtain ⟨r3, M4, hc5, hf⟩ := zbnd_some hf
  refine R_callNv X (av := [.ref (ad (k1 + 1)), .ref (ad (k + 1))]) (rest := []) (c_X9_copyRow l D cas ad hi hp1 hp2 hc5) zy_X9_copyRow wn_X0_24 rfl rfl ⟨Nat.le_of_ble_eq_true rfl, Nat.le_of_ble_eq_true rfl⟩ ⟨Nat.le_refl _, Nat.le_refl _⟩ (Nat.le_of_ble_eq_true rfl) dX0_copyFrom_8 ?_
  refine R_aload_n X 1 dX0_copyFrom_11 rfl rfl ?_
  have hp6 : k1 + 2 < zN ∧ lay (k1 + 2) = (1, 16) := pt_0_1 _ hk1.1 hk1.2
  refine R_getR X (j := 1) 2 (k1 + 2) hk1 rfl inX0 (by decide) rfl rfl (by decide) rfl rfl wf_X0_15 dX0_copyFrom_12 ?_
  refine R_aload_n X 0 dX0_copyFrom_15 rfl rfl ?_
  have hp7 : k + 2 < zN ∧ lay (k + 2) = (1, 16) := pt_0_1 _ hk.1 hk.2
  refine R_getR X (j := 1) 2 (k + 2) hk rfl inX0 (by decide) rfl rfl (by decide) rfl rfl wf_X0_15 dX0_copyFrom_16 ?_
  obtain ⟨r8, M9, hc10, hf⟩ := zbnd_some hf
  refine R_callNv X (av := [.ref (ad (k1 + 2)), .ref (ad (k + 2))]) (rest := []) (c_X9_copyRow l D cas ad hi hp6 hp7 hc10) zy_X9_copyRow wn_X0_24 rfl rfl ⟨Nat.le_of_ble_eq_true rfl, Nat.le_of_ble_eq_true rfl⟩ ⟨Nat.le_refl _, Nat.le_refl _⟩ (Nat.le_of_ble_eq_true rfl) dX0_copyFrom_19 ?_
  refine R_aload_n X 1 dX0_copyFrom_22 rfl rfl ?_
  have hp11 : k1 + 3 < zN ∧ lay (k1 + 3) = (1, 16) := pt_0_2 _ hk1.1 hk1.2
  refine R_getR X (j := 2) 3 (k1 + 3) hk1 rfl inX0 (by decide) rfl rfl (by decide) rfl rfl wf_X0_18 dX0_copyFrom_23 ?_
  refine R_aload_n X 0 dX0_copyFrom_26 rfl rfl ?_
  have hp12 : k + 3 < zN ∧ lay (k + 3) = (1, 16) := pt_0_2 _ hk.1 hk.2
  refine R_getR X (j := 2) 3 (k + 3) hk rfl inX0 (by decide) rfl rfl (by decide) rfl rfl wf_X0_18 dX0_copyFrom_27 ?_
  obtain ⟨r13, M14, hc15, hf⟩ := zbnd_some hf
  refine R_callNv X (av := [.ref (ad (k1 + 3)), .ref (ad (k + 3))]) (rest := []) (c_X9_copyRow l D cas ad hi hp11 hp12 hc15) zy_X9_copyRow wn_X0_24 rfl rfl ⟨Nat.le_of_ble_eq_true rfl, Nat.le_of_ble_eq_true rfl⟩ ⟨Nat.le_refl _, Nat.le_refl _⟩ (Nat.le_of_ble_eq_true rfl) dX0_copyFrom_30 ?_
  refine R_aload_n X 1 dX0_copyFrom_33 rfl rfl ?_
  have hp16 : k1 + 4 < zN ∧ lay (k1 + 4) = (1, 256) := pt_0_3 _ hk1.1 hk1.2
  refine R_getR X (j := 3) 4 (k1 + 4) hk1 rfl inX0 (by decide) rfl rfl (by decide) rfl rfl wf_X0_21 dX0_copyFrom_34 ?_
  refine R_aload_n X 0 dX0_copyFrom_37 rfl rfl ?_
  have hp17 : k + 4 < zN ∧ lay (k + 4) = (1, 256) := pt_0_3 _ hk.1 hk.2
  refine R_getR X (j := 3) 4 (k + 4) hk rfl inX0 (by decide) rfl rfl (by decide) rfl rfl wf_X0_21 dX0_copyFrom_38 ?_
  obtain ⟨r18, M19, hc20, hf⟩ := zbnd_some hf
  refine R_callNv X (av := [.ref (ad (k1 + 4)), .ref (ad (k + 4))]) (rest := []) (c_X9_copyRow l D cas ad hi hp16 hp17 hc20) zy_X9_copyRow wn_X0_24 rfl rfl ⟨Nat.le_of_ble_eq_true rfl, Nat.le_of_ble_eq_true rfl⟩ ⟨Nat.le_refl _, Nat.le_refl _⟩ (Nat.le_of_ble_eq_true rfl) dX0_copyFrom_41 ?_
  exact R_vret X hr hk0 dX0_copyFrom_44 hf
theorem dX2_copyFrom_0 : decode cX2_copyFrom 0 = .ok (.aload_n 0, 1) := by decide +kernel
theorem dX2_copyFrom_1 : decode cX2_copyFrom 1 = .ok (.aload_n 1, 1) := by decide +kernel
theorem dX2_copyFrom_2 : decode cX2_copyFrom 2 = .ok (.getfield 37, 3) := by decide +kernel
theorem dX2_copyFrom_5 : decode cX2_copyFrom 5 = .ok (.putfield 37, 3) := by decide +kernel
theorem dX2_copyFrom_8 : decode cX2_copyFrom 8 = .ok (.aload_n 1, 1) := by decide +kernel
theorem dX2_copyFrom_9 : decode cX2_copyFrom 9 = .ok (.getfield 9, 3) := by decide +kernel
theorem dX2_copyFrom_12 : decode cX2_copyFrom 12 = .ok (.aload_n 0, 1) := by decide +kernel
theorem dX2_copyFrom_13 : decode cX2_copyFrom 13 = .ok (.getfield 9, 3) := by decide +kernel
theorem dX2_copyFrom_16 : decode cX2_copyFrom 16 = .ok (.invokestatic 41, 3) := by decide +kernel
theorem dX2_copyFrom_19 : decode cX2_copyFrom 19 = .ok (.aload_n 1, 1) := by decide +kernel
theorem dX2_copyFrom_20 : decode cX2_copyFrom 20 = .ok (.getfield 15, 3) := by decide +kernel
theorem dX2_copyFrom_23 : decode cX2_copyFrom 23 = .ok (.aload_n 0, 1) := by decide +kernel
theorem dX2_copyFrom_24 : decode cX2_copyFrom 24 = .ok (.getfield 15, 3) := by decide +kernel
theorem dX2_copyFrom_27 : decode cX2_copyFrom 27 = .ok (.invokestatic 41, 3) := by decide +kernel
theorem dX2_copyFrom_30 : decode cX2_copyFrom 30 = .ok (.aload_n 1, 1) := by decide +kernel
theorem dX2_copyFrom_31 : decode cX2_copyFrom 31 = .ok (.getfield 18, 3) := by decide +kernel
theorem dX2_copyFrom_34 : decode cX2_copyFrom 34 = .ok (.aload_n 0, 1) := by decide +kernel
theorem dX2_copyFrom_35 : decode cX2_copyFrom 35 = .ok (.getfield 18, 3) := by decide +kernel
theorem dX2_copyFrom_38 : decode cX2_copyFrom 38 = .ok (.invokestatic 41, 3) := by decide +kernel
theorem dX2_copyFrom_41 : decode cX2_copyFrom 41 = .ok (.aload_n 1, 1) := by decide +kernel
theorem dX2_copyFrom_42 : decode cX2_copyFrom 42 = .ok (.getfield 21, 3) := by decide +kernel
theorem dX2_copyFrom_45 : decode cX2_copyFrom 45 = .ok (.aload_n 0, 1) := by decide +kernel
theorem dX2_copyFrom_46 : decode cX2_copyFrom 46 = .ok (.getfield 21, 3) := by decide +kernel
theorem dX2_copyFrom_49 : decode cX2_copyFrom 49 = .ok (.invokestatic 41, 3) := by decide +kernel
theorem dX2_copyFrom_52 : decode cX2_copyFrom 52 = .ok (.aload_n 1, 1) := by decide +kernel
theorem dX2_copyFrom_53 : decode cX2_copyFrom 53 = .ok (.getfield 28, 3) := by decide +kernel
theorem dX2_copyFrom_56 : decode cX2_copyFrom 56 = .ok (.aload_n 0, 1) := by decide +kernel
theorem dX2_copyFrom_57 : decode cX2_copyFrom 57 = .ok (.getfield 28, 3) := by decide +kernel
theorem dX2_copyFrom_60 : decode cX2_copyFrom 60 = .ok (.invokestatic 41, 3) := by decide +kernel
theorem dX2_copyFrom_63 : decode cX2_copyFrom 63 = .ok (.iconst 0, 1) := by decide +kernel
theorem dX2_copyFrom_64 : decode cX2_copyFrom 64 = .ok (.istore_n 2, 1) := by decide +kernel
theorem dX2_copyFrom_65 : decode cX2_copyFrom 65 = .ok (.iload_n 2, 1) := by decide +kernel
theorem dX2_copyFrom_66 : decode cX2_copyFrom 66 = .ok (.bipush 8, 2) := by decide +kernel
theorem dX2_copyFrom_68 : decode cX2_copyFrom 68 = .ok (.if_icmp .ge 21, 3) := by decide +kernel
theorem dX2_copyFrom_71 : decode cX2_copyFrom 71 = .ok (.aload_n 0, 1) := by decide +kernel
theorem dX2_copyFrom_72 : decode cX2_copyFrom 72 = .ok (.getfield 24, 3) := by decide +kernel
theorem dX2_copyFrom_75 : decode cX2_copyFrom 75 = .ok (.iload_n 2, 1) := by decide +kernel
theorem dX2_copyFrom_76 : decode cX2_copyFrom 76 = .ok (.aload_n 1, 1) := by decide +kernel
theorem dX2_copyFrom_77 : decode cX2_copyFrom 77 = .ok (.getfield 24, 3) := by decide +kernel
theorem dX2_copyFrom_80 : decode cX2_copyFrom 80 = .ok (.iload_n 2, 1) := by decide +kernel
theorem dX2_copyFrom_81 : decode cX2_copyFrom 81 = .ok (.baload, 1) := by decide +kernel
theorem dX2_copyFrom_82 : decode cX2_copyFrom 82 = .ok (.bastore, 1) := by decide +kernel
theorem dX2_copyFrom_83 : decode cX2_copyFrom 83 = .ok (.iinc 2 1, 3) := by decide +kernel
theorem dX2_copyFrom_86 : decode cX2_copyFrom 86 = .ok (.goto (-21), 3) := by decide +kernel
theorem dX2_copyFrom_89 : decode cX2_copyFrom 89 = .ok (.return_, 1) := by decide +kernel
set_option maxRecDepth 100000 in
set_option maxHeartbeats 4000000 in
theorem c_X2_copyFrom (l : Launch) (D : va_G) (cas : Nat → ClassId) (ad : Nat → Nat) (hi : zInj ad) {k : Nat} {k1 : Nat}  (hk : k < zN ∧ lay k = (0, 2)) (hk1 : k1 < zN ∧ lay k1 = (0, 2)) {r : Int} {M M' : Mem} (hf : f_X2_copyFrom k k1 M = some (r, M')) : zMv l D cas ad yX2_copyFrom cX2_copyFrom 3 2 47 [.ref (ad k), .ref (ad k1)] M M' := by
  refine zbody (by decide) (Nat.le_of_ble_eq_true rfl) hi ?_
  intro p e s m args below meth c X hr hk0
  have X : zX p s m args c cX2_copyFrom "ShardTrails$Land" 3 D cas ad (zA ad) := X
  have hB65 : ∀ (n : Nat) (v2 : Int) (M : Mem), f_X2_copyFrom_b65 k k1 n v2 M = some (r, M') → WW p l e (zrm 2 47) s m args below meth c D cas ad (zA ad) 3 0 0 (MQ below (zQv D cas ad M') args s 0 0 (zA ad)) 65 [(0, .ref (ad k)), (1, .ref (ad k1)), (2, .int (zI v2))] [] M := by
    intro n
    induction n with
    | zero => intro v2 M hf; exact absurd hf (by unfold f_X2_copyFrom_b65; simp)
    | succ n ih =>
      intro v2 M hf
      unfold f_X2_copyFrom_b65 at hf
      refine R_iload_n X 2 dX2_copyFrom_65 rfl rfl ?_
      refine R_bipush X dX2_copyFrom_66 (by decide +kernel) ?_
      obtain ⟨hq27, hf⟩ := zgrd hf
      refine R_icmp_ge X 89 ⟨hq27, (by decide)⟩ dX2_copyFrom_68 (by decide) (fun c33 => ?_) (fun c33 => ?_)
      · have hf := zthen hf c33
        exact R_vret X hr hk0 dX2_copyFrom_89 hf
      · have hf := zelse hf c33
        refine R_aload_n X 0 dX2_copyFrom_71 rfl rfl ?_
        have hp28 : k + 5 < zN ∧ lay (k + 5) = (2, 8) := pt_2_5 _ hk.1 hk.2
        refine R_getR X (j := 5) 5 (k + 5) hk rfl inX2 (by decide) rfl rfl (by decide) rfl rfl wf_X2_24 dX2_copyFrom_72 ?_
        refine R_iload_n X 2 dX2_copyFrom_75 rfl rfl ?_
        refine R_aload_n X 1 dX2_copyFrom_76 rfl rfl ?_
        have hp29 : k1 + 5 < zN ∧ lay (k1 + 5) = (2, 8) := pt_2_5 _ hk1.1 hk1.2
        refine R_getR X (j := 5) 5 (k1 + 5) hk1 rfl inX2 (by decide) rfl rfl (by decide) rfl rfl wf_X2_24 dX2_copyFrom_77 ?_
        refine R_iload_n X 2 dX2_copyFrom_80 rfl rfl ?_
        obtain ⟨hq30, hf⟩ := zgrd hf
        refine R_zald X hp29 hq30 dX2_copyFrom_81 ?_
        obtain ⟨hq31, hf⟩ := zgrd hf
        obtain ⟨M32, eM32, hf⟩ := zlt_some hf
        refine R_zast X hp28 hq30 hq31 dX2_copyFrom_82 ?_
        refine R_mem eM32 ?_
        refine R_iinc X (lv' := [(2, .int (zI (v2 + 1))), (0, .ref (ad k)), (1, .ref (ad k1))]) 2 dX2_copyFrom_83 rfl (by decide) rfl ?_
        refine R_goto X 65 dX2_copyFrom_86 (by decide) ?_
        exact R_sub [1, 2, 0] rfl (ih (v2 + 1) M32 hf)
  unfold f_X2_copyFrom at hf
  refine (?_ : WW p l e (zrm 2 47) s m args below meth c D cas ad (zA ad) 3 0 0 (MQ below (zQv D cas ad M') args s 0 0 (zA ad)) 0 [(0, .ref (ad k)), (1, .ref (ad k1))] [] M)
  refine R_aload_n X 0 dX2_copyFrom_0 rfl rfl ?_
  refine R_aload_n X 1 dX2_copyFrom_1 rfl rfl ?_
  refine R_getI X (j := 0) hk1 rfl inX2 (by decide) rfl rfl rfl wf_X2_37 dX2_copyFrom_2 ?_
  obtain ⟨M1, eM1, hf⟩ := zlt_some hf
  refine R_put X (j := 0) hk rfl inX2 tyX2_ok nmX2 (by decide) rfl rfl rfl wf_X2_37 rfl (by decide +kernel) (z_nI _) (z_fI _) dX2_copyFrom_5 ?_
  refine R_mem eM1 ?_
  refine R_aload_n X 1 dX2_copyFrom_8 rfl rfl ?_
  have hp2 : k1 + 1 < zN ∧ lay (k1 + 1) = (1, 8) := pt_2_1 _ hk1.1 hk1.2
  refine R_getR X (j := 1) 1 (k1 + 1) hk1 rfl inX2 (by decide) rfl rfl (by decide) rfl rfl wf_X2_9 dX2_copyFrom_9 ?_
  refine R_aload_n X 0 dX2_copyFrom_12 rfl rfl ?_
  have hp3 : k + 1 < zN ∧ lay (k + 1) = (1, 8) := pt_2_1 _ hk.1 hk.2
  refine R_getR X (j := 1) 1 (k + 1) hk rfl inX2 (by decide) rfl rfl (by decide) rfl rfl wf_X2_9 dX2_copyFrom_13 ?_
  obtain ⟨r4, M5, hc6, hf⟩ := zbnd_some hf
  refine R_callNv X (av := [.ref (ad (k1 + 1)), .ref (ad (k + 1))]) (rest := []) (c_X9_copyRow l D cas ad hi hp2 hp3 hc6) zy_X9_copyRow wn_X2_41 rfl rfl ⟨Nat.le_of_ble_eq_true rfl, Nat.le_of_ble_eq_true rfl⟩ ⟨Nat.le_refl _, Nat.le_refl _⟩ (Nat.le_of_ble_eq_true rfl) dX2_copyFrom_16 ?_
  refine R_aload_n X 1 dX2_copyFrom_19 rfl rfl ?_
  have hp7 : k1 + 2 < zN ∧ lay (k1 + 2) = (1, 8) := pt_2_2 _ hk1.1 hk1.2
  refine R_getR X (j := 2) 2 (k1 + 2) hk1 rfl inX2 (by decide) rfl rfl (by decide) rfl rfl wf_X2_15 dX2_copyFrom_20 ?_
  refine R_aload_n X 0 dX2_copyFrom_23 rfl rfl ?_
  have hp8 : k + 2 < zN ∧ lay (k + 2) = (1, 8) := pt_2_2 _ hk.1 hk.2
  refine R_getR X (j := 2) 2 (k + 2) hk rfl inX2 (by decide) rfl rfl (by decide) rfl rfl wf_X2_15 dX2_copyFrom_24 ?_
  obtain ⟨r9, M10, hc11, hf⟩ := zbnd_some hf
  refine R_callNv X (av := [.ref (ad (k1 + 2)), .ref (ad (k + 2))]) (rest := []) (c_X9_copyRow l D cas ad hi hp7 hp8 hc11) zy_X9_copyRow wn_X2_41 rfl rfl ⟨Nat.le_of_ble_eq_true rfl, Nat.le_of_ble_eq_true rfl⟩ ⟨Nat.le_refl _, Nat.le_refl _⟩ (Nat.le_of_ble_eq_true rfl) dX2_copyFrom_27 ?_
  refine R_aload_n X 1 dX2_copyFrom_30 rfl rfl ?_
  have hp12 : k1 + 3 < zN ∧ lay (k1 + 3) = (1, 8) := pt_2_3 _ hk1.1 hk1.2
  refine R_getR X (j := 3) 3 (k1 + 3) hk1 rfl inX2 (by decide) rfl rfl (by decide) rfl rfl wf_X2_18 dX2_copyFrom_31 ?_
  refine R_aload_n X 0 dX2_copyFrom_34 rfl rfl ?_
  have hp13 : k + 3 < zN ∧ lay (k + 3) = (1, 8) := pt_2_3 _ hk.1 hk.2
  refine R_getR X (j := 3) 3 (k + 3) hk rfl inX2 (by decide) rfl rfl (by decide) rfl rfl wf_X2_18 dX2_copyFrom_35 ?_
  obtain ⟨r14, M15, hc16, hf⟩ := zbnd_some hf
  refine R_callNv X (av := [.ref (ad (k1 + 3)), .ref (ad (k + 3))]) (rest := []) (c_X9_copyRow l D cas ad hi hp12 hp13 hc16) zy_X9_copyRow wn_X2_41 rfl rfl ⟨Nat.le_of_ble_eq_true rfl, Nat.le_of_ble_eq_true rfl⟩ ⟨Nat.le_refl _, Nat.le_refl _⟩ (Nat.le_of_ble_eq_true rfl) dX2_copyFrom_38 ?_
  refine R_aload_n X 1 dX2_copyFrom_41 rfl rfl ?_
  have hp17 : k1 + 4 < zN ∧ lay (k1 + 4) = (1, 8) := pt_2_4 _ hk1.1 hk1.2
  refine R_getR X (j := 4) 4 (k1 + 4) hk1 rfl inX2 (by decide) rfl rfl (by decide) rfl rfl wf_X2_21 dX2_copyFrom_42 ?_
  refine R_aload_n X 0 dX2_copyFrom_45 rfl rfl ?_
  have hp18 : k + 4 < zN ∧ lay (k + 4) = (1, 8) := pt_2_4 _ hk.1 hk.2
  refine R_getR X (j := 4) 4 (k + 4) hk rfl inX2 (by decide) rfl rfl (by decide) rfl rfl wf_X2_21 dX2_copyFrom_46 ?_
  obtain ⟨r19, M20, hc21, hf⟩ := zbnd_some hf
  refine R_callNv X (av := [.ref (ad (k1 + 4)), .ref (ad (k + 4))]) (rest := []) (c_X9_copyRow l D cas ad hi hp17 hp18 hc21) zy_X9_copyRow wn_X2_41 rfl rfl ⟨Nat.le_of_ble_eq_true rfl, Nat.le_of_ble_eq_true rfl⟩ ⟨Nat.le_refl _, Nat.le_refl _⟩ (Nat.le_of_ble_eq_true rfl) dX2_copyFrom_49 ?_
  refine R_aload_n X 1 dX2_copyFrom_52 rfl rfl ?_
  have hp22 : k1 + 6 < zN ∧ lay (k1 + 6) = (1, 128) := pt_2_6 _ hk1.1 hk1.2
  refine R_getR X (j := 6) 6 (k1 + 6) hk1 rfl inX2 (by decide) rfl rfl (by decide) rfl rfl wf_X2_28 dX2_copyFrom_53 ?_
  refine R_aload_n X 0 dX2_copyFrom_56 rfl rfl ?_
  have hp23 : k + 6 < zN ∧ lay (k + 6) = (1, 128) := pt_2_6 _ hk.1 hk.2
  refine R_getR X (j := 6) 6 (k + 6) hk rfl inX2 (by decide) rfl rfl (by decide) rfl rfl wf_X2_28 dX2_copyFrom_57 ?_
  obtain ⟨r24, M25, hc26, hf⟩ := zbnd_some hf
  refine R_callNv X (av := [.ref (ad (k1 + 6)), .ref (ad (k + 6))]) (rest := []) (c_X9_copyRow l D cas ad hi hp22 hp23 hc26) zy_X9_copyRow wn_X2_41 rfl rfl ⟨Nat.le_of_ble_eq_true rfl, Nat.le_of_ble_eq_true rfl⟩ ⟨Nat.le_refl _, Nat.le_refl _⟩ (Nat.le_of_ble_eq_true rfl) dX2_copyFrom_60 ?_
  refine R_iconst X dX2_copyFrom_63 ?_
  refine R_istore_n X (lv' := [(2, .int (zI 0)), (0, .ref (ad k)), (1, .ref (ad k1))]) dX2_copyFrom_64 rfl (by decide) rfl ?_
  exact R_sub [1, 2, 0] rfl (hB65 100000 0 M25 hf)
theorem dX3_copyFrom_0 : decode cX3_copyFrom 0 = .ok (.aload_n 0, 1) := by decide +kernel
theorem dX3_copyFrom_1 : decode cX3_copyFrom 1 = .ok (.aload_n 1, 1) := by decide +kernel
theorem dX3_copyFrom_2 : decode cX3_copyFrom 2 = .ok (.getfield 18, 3) := by decide +kernel
theorem dX3_copyFrom_5 : decode cX3_copyFrom 5 = .ok (.putfield 18, 3) := by decide +kernel
theorem dX3_copyFrom_8 : decode cX3_copyFrom 8 = .ok (.aload_n 1, 1) := by decide +kernel
theorem dX3_copyFrom_9 : decode cX3_copyFrom 9 = .ok (.getfield 9, 3) := by decide +kernel
theorem dX3_copyFrom_12 : decode cX3_copyFrom 12 = .ok (.aload_n 0, 1) := by decide +kernel
theorem dX3_copyFrom_13 : decode cX3_copyFrom 13 = .ok (.getfield 9, 3) := by decide +kernel
theorem dX3_copyFrom_16 : decode cX3_copyFrom 16 = .ok (.invokestatic 22, 3) := by decide +kernel
theorem dX3_copyFrom_19 : decode cX3_copyFrom 19 = .ok (.aload_n 1, 1) := by decide +kernel
theorem dX3_copyFrom_20 : decode cX3_copyFrom 20 = .ok (.getfield 15, 3) := by decide +kernel
theorem dX3_copyFrom_23 : decode cX3_copyFrom 23 = .ok (.aload_n 0, 1) := by decide +kernel
theorem dX3_copyFrom_24 : decode cX3_copyFrom 24 = .ok (.getfield 15, 3) := by decide +kernel
theorem dX3_copyFrom_27 : decode cX3_copyFrom 27 = .ok (.invokestatic 22, 3) := by decide +kernel
theorem dX3_copyFrom_30 : decode cX3_copyFrom 30 = .ok (.return_, 1) := by decide +kernel
set_option maxRecDepth 100000 in
set_option maxHeartbeats 4000000 in
theorem c_X3_copyFrom (l : Launch) (D : va_G) (cas : Nat → ClassId) (ad : Nat → Nat) (hi : zInj ad) {k : Nat} {k1 : Nat}  (hk : k < zN ∧ lay k = (0, 3)) (hk1 : k1 < zN ∧ lay k1 = (0, 3)) {r : Int} {M M' : Mem} (hf : f_X3_copyFrom k k1 M = some (r, M')) : zMv l D cas ad yX3_copyFrom cX3_copyFrom 2 2 47 [.ref (ad k), .ref (ad k1)] M M' := by
  refine zbody (by decide) (Nat.le_of_ble_eq_true rfl) hi ?_
  intro p e s m args below meth c X hr hk0
  have X : zX p s m args c cX3_copyFrom "ShardTrails$Pack" 2 D cas ad (zA ad) := X
  unfold f_X3_copyFrom at hf
  refine (?_ : WW p l e (zrm 2 47) s m args below meth c D cas ad (zA ad) 2 0 0 (MQ below (zQv D cas ad M') args s 0 0 (zA ad)) 0 [(0, .ref (ad k)), (1, .ref (ad k1))] [] M)
  refine R_aload_n X 0 dX3_copyFrom_0 rfl rfl ?_
  refine R_aload_n X 1 dX3_copyFrom_1 rfl rfl ?_
  refine R_getI X (j := 0) hk1 rfl inX3 (by decide) rfl rfl rfl wf_X3_18 dX3_copyFrom_2 ?_
  obtain ⟨M1, eM1, hf⟩ := zlt_some hf
  refine R_put X (j := 0) hk rfl inX3 tyX3_ok nmX3 (by decide) rfl rfl rfl wf_X3_18 rfl (by decide +kernel) (z_nI _) (z_fI _) dX3_copyFrom_5 ?_
  refine R_mem eM1 ?_
  refine R_aload_n X 1 dX3_copyFrom_8 rfl rfl ?_
  have hp2 : k1 + 1 < zN ∧ lay (k1 + 1) = (1, 3) := pt_3_1 _ hk1.1 hk1.2
  refine R_getR X (j := 1) 1 (k1 + 1) hk1 rfl inX3 (by decide) rfl rfl (by decide) rfl rfl wf_X3_9 dX3_copyFrom_9 ?_
  refine R_aload_n X 0 dX3_copyFrom_12 rfl rfl ?_
  have hp3 : k + 1 < zN ∧ lay (k + 1) = (1, 3) := pt_3_1 _ hk.1 hk.2
  refine R_getR X (j := 1) 1 (k + 1) hk rfl inX3 (by decide) rfl rfl (by decide) rfl rfl wf_X3_9 dX3_copyFrom_13 ?_
  obtain ⟨r4, M5, hc6, hf⟩ := zbnd_some hf
  refine R_callNv X (av := [.ref (ad (k1 + 1)), .ref (ad (k + 1))]) (rest := []) (c_X9_copyRow l D cas ad hi hp2 hp3 hc6) zy_X9_copyRow wn_X3_22 rfl rfl ⟨Nat.le_of_ble_eq_true rfl, Nat.le_of_ble_eq_true rfl⟩ ⟨Nat.le_refl _, Nat.le_refl _⟩ (Nat.le_of_ble_eq_true rfl) dX3_copyFrom_16 ?_
  refine R_aload_n X 1 dX3_copyFrom_19 rfl rfl ?_
  have hp7 : k1 + 2 < zN ∧ lay (k1 + 2) = (1, 3) := pt_3_2 _ hk1.1 hk1.2
  refine R_getR X (j := 2) 2 (k1 + 2) hk1 rfl inX3 (by decide) rfl rfl (by decide) rfl rfl wf_X3_15 dX3_copyFrom_20 ?_
  refine R_aload_n X 0 dX3_copyFrom_23 rfl rfl ?_
  have hp8 : k + 2 < zN ∧ lay (k + 2) = (1, 3) := pt_3_2 _ hk.1 hk.2
  refine R_getR X (j := 2) 2 (k + 2) hk rfl inX3 (by decide) rfl rfl (by decide) rfl rfl wf_X3_15 dX3_copyFrom_24 ?_
  obtain ⟨r9, M10, hc11, hf⟩ := zbnd_some hf
  refine R_callNv X (av := [.ref (ad (k1 + 2)), .ref (ad (k + 2))]) (rest := []) (c_X9_copyRow l D cas ad hi hp7 hp8 hc11) zy_X9_copyRow wn_X3_22 rfl rfl ⟨Nat.le_of_ble_eq_true rfl, Nat.le_of_ble_eq_true rfl⟩ ⟨Nat.le_refl _, Nat.le_refl _⟩ (Nat.le_of_ble_eq_true rfl) dX3_copyFrom_27 ?_
  exact R_vret X hr hk0 dX3_copyFrom_30 hf
theorem dX4_copyFrom_0 : decode cX4_copyFrom 0 = .ok (.aload_n 0, 1) := by decide +kernel
theorem dX4_copyFrom_1 : decode cX4_copyFrom 1 = .ok (.aload_n 1, 1) := by decide +kernel
theorem dX4_copyFrom_2 : decode cX4_copyFrom 2 = .ok (.getfield 30, 3) := by decide +kernel
theorem dX4_copyFrom_5 : decode cX4_copyFrom 5 = .ok (.putfield 30, 3) := by decide +kernel
theorem dX4_copyFrom_8 : decode cX4_copyFrom 8 = .ok (.aload_n 1, 1) := by decide +kernel
theorem dX4_copyFrom_9 : decode cX4_copyFrom 9 = .ok (.getfield 9, 3) := by decide +kernel
theorem dX4_copyFrom_12 : decode cX4_copyFrom 12 = .ok (.aload_n 0, 1) := by decide +kernel
theorem dX4_copyFrom_13 : decode cX4_copyFrom 13 = .ok (.getfield 9, 3) := by decide +kernel
theorem dX4_copyFrom_16 : decode cX4_copyFrom 16 = .ok (.invokestatic 34, 3) := by decide +kernel
theorem dX4_copyFrom_19 : decode cX4_copyFrom 19 = .ok (.aload_n 1, 1) := by decide +kernel
theorem dX4_copyFrom_20 : decode cX4_copyFrom 20 = .ok (.getfield 15, 3) := by decide +kernel
theorem dX4_copyFrom_23 : decode cX4_copyFrom 23 = .ok (.aload_n 0, 1) := by decide +kernel
theorem dX4_copyFrom_24 : decode cX4_copyFrom 24 = .ok (.getfield 15, 3) := by decide +kernel
theorem dX4_copyFrom_27 : decode cX4_copyFrom 27 = .ok (.invokestatic 34, 3) := by decide +kernel
theorem dX4_copyFrom_30 : decode cX4_copyFrom 30 = .ok (.aload_n 1, 1) := by decide +kernel
theorem dX4_copyFrom_31 : decode cX4_copyFrom 31 = .ok (.getfield 18, 3) := by decide +kernel
theorem dX4_copyFrom_34 : decode cX4_copyFrom 34 = .ok (.aload_n 0, 1) := by decide +kernel
theorem dX4_copyFrom_35 : decode cX4_copyFrom 35 = .ok (.getfield 18, 3) := by decide +kernel
theorem dX4_copyFrom_38 : decode cX4_copyFrom 38 = .ok (.invokestatic 34, 3) := by decide +kernel
theorem dX4_copyFrom_41 : decode cX4_copyFrom 41 = .ok (.aload_n 1, 1) := by decide +kernel
theorem dX4_copyFrom_42 : decode cX4_copyFrom 42 = .ok (.getfield 21, 3) := by decide +kernel
theorem dX4_copyFrom_45 : decode cX4_copyFrom 45 = .ok (.aload_n 0, 1) := by decide +kernel
theorem dX4_copyFrom_46 : decode cX4_copyFrom 46 = .ok (.getfield 21, 3) := by decide +kernel
theorem dX4_copyFrom_49 : decode cX4_copyFrom 49 = .ok (.invokestatic 34, 3) := by decide +kernel
theorem dX4_copyFrom_52 : decode cX4_copyFrom 52 = .ok (.aload_n 1, 1) := by decide +kernel
theorem dX4_copyFrom_53 : decode cX4_copyFrom 53 = .ok (.getfield 24, 3) := by decide +kernel
theorem dX4_copyFrom_56 : decode cX4_copyFrom 56 = .ok (.aload_n 0, 1) := by decide +kernel
theorem dX4_copyFrom_57 : decode cX4_copyFrom 57 = .ok (.getfield 24, 3) := by decide +kernel
theorem dX4_copyFrom_60 : decode cX4_copyFrom 60 = .ok (.invokestatic 34, 3) := by decide +kernel
theorem dX4_copyFrom_63 : decode cX4_copyFrom 63 = .ok (.aload_n 1, 1) := by decide +kernel
theorem dX4_copyFrom_64 : decode cX4_copyFrom 64 = .ok (.getfield 27, 3) := by decide +kernel
theorem dX4_copyFrom_67 : decode cX4_copyFrom 67 = .ok (.aload_n 0, 1) := by decide +kernel
theorem dX4_copyFrom_68 : decode cX4_copyFrom 68 = .ok (.getfield 27, 3) := by decide +kernel
theorem dX4_copyFrom_71 : decode cX4_copyFrom 71 = .ok (.invokestatic 34, 3) := by decide +kernel
theorem dX4_copyFrom_74 : decode cX4_copyFrom 74 = .ok (.return_, 1) := by decide +kernel
set_option maxRecDepth 100000 in
set_option maxHeartbeats 4000000 in
theorem c_X4_copyFrom (l : Launch) (D : va_G) (cas : Nat → ClassId) (ad : Nat → Nat) (hi : zInj ad) {k : Nat} {k1 : Nat}  (hk : k < zN ∧ lay k = (0, 4)) (hk1 : k1 < zN ∧ lay k1 = (0, 4)) {r : Int} {M M' : Mem} (hf : f_X4_copyFrom k k1 M = some (r, M')) : zMv l D cas ad yX4_copyFrom cX4_copyFrom 2 2 47 [.ref (ad k), .ref (ad k1)] M M' := by
  refine zbody (by decide) (Nat.le_of_ble_eq_true rfl) hi ?_
  intro p e s m args below meth c X hr hk0
  have X : zX p s m args c cX4_copyFrom "ShardTrails$Readers" 2 D cas ad (zA ad) := X
  unfold f_X4_copyFrom at hf
  refine (?_ : WW p l e (zrm 2 47) s m args below meth c D cas ad (zA ad) 2 0 0 (MQ below (zQv D cas ad M') args s 0 0 (zA ad)) 0 [(0, .ref (ad k)), (1, .ref (ad k1))] [] M)
  refine R_aload_n X 0 dX4_copyFrom_0 rfl rfl ?_
  refine R_aload_n X 1 dX4_copyFrom_1 rfl rfl ?_
  refine R_getI X (j := 0) hk1 rfl inX4 (by decide) rfl rfl rfl wf_X4_30 dX4_copyFrom_2 ?_
  obtain ⟨M1, eM1, hf⟩ := zlt_some hf
  refine R_put X (j := 0) hk rfl inX4 tyX4_ok nmX4 (by decide) rfl rfl rfl wf_X4_30 rfl (by decide +kernel) (z_nI _) (z_fI _) dX4_copyFrom_5 ?_
  refine R_mem eM1 ?_
  refine R_aload_n X 1 dX4_copyFrom_8 rfl rfl ?_
  have hp2 : k1 + 1 < zN ∧ lay (k1 + 1) = (1, 6) := pt_4_1 _ hk1.1 hk1.2
  refine R_getR X (j := 1) 1 (k1 + 1) hk1 rfl inX4 (by decide) rfl rfl (by decide) rfl rfl wf_X4_9 dX4_copyFrom_9 ?_
  refine R_aload_n X 0 dX4_copyFrom_12 rfl rfl ?_
  have hp3 : k + 1 < zN ∧ lay (k + 1) = (1, 6) := pt_4_1 _ hk.1 hk.2
  refine R_getR X (j := 1) 1 (k + 1) hk rfl inX4 (by decide) rfl rfl (by decide) rfl rfl wf_X4_9 dX4_copyFrom_13 ?_
  obtain ⟨r4, M5, hc6, hf⟩ := zbnd_some hf
  refine R_callNv X (av := [.ref (ad (k1 + 1)), .ref (ad (k + 1))]) (rest := []) (c_X9_copyRow l D cas ad hi hp2 hp3 hc6) zy_X9_copyRow wn_X4_34 rfl rfl ⟨Nat.le_of_ble_eq_true rfl, Nat.le_of_ble_eq_true rfl⟩ ⟨Nat.le_refl _, Nat.le_refl _⟩ (Nat.le_of_ble_eq_true rfl) dX4_copyFrom_16 ?_
  refine R_aload_n X 1 dX4_copyFrom_19 rfl rfl ?_
  have hp7 : k1 + 2 < zN ∧ lay (k1 + 2) = (1, 6) := pt_4_2 _ hk1.1 hk1.2
  refine R_getR X (j := 2) 2 (k1 + 2) hk1 rfl inX4 (by decide) rfl rfl (by decide) rfl rfl wf_X4_15 dX4_copyFrom_20 ?_
  refine R_aload_n X 0 dX4_copyFrom_23 rfl rfl ?_
  have hp8 : k + 2 < zN ∧ lay (k + 2) = (1, 6) := pt_4_2 _ hk.1 hk.2
  refine R_getR X (j := 2) 2 (k + 2) hk rfl inX4 (by decide) rfl rfl (by decide) rfl rfl wf_X4_15 dX4_copyFrom_24 ?_
  obtain ⟨r9, M10, hc11, hf⟩ := zbnd_some hf
  refine R_callNv X (av := [.ref (ad (k1 + 2)), .ref (ad (k + 2))]) (rest := []) (c_X9_copyRow l D cas ad hi hp7 hp8 hc11) zy_X9_copyRow wn_X4_34 rfl rfl ⟨Nat.le_of_ble_eq_true rfl, Nat.le_of_ble_eq_true rfl⟩ ⟨Nat.le_refl _, Nat.le_refl _⟩ (Nat.le_of_ble_eq_true rfl) dX4_copyFrom_27 ?_
  refine R_aload_n X 1 dX4_copyFrom_30 rfl rfl ?_
  have hp12 : k1 + 3 < zN ∧ lay (k1 + 3) = (1, 6) := pt_4_3 _ hk1.1 hk1.2
  refine R_getR X (j := 3) 3 (k1 + 3) hk1 rfl inX4 (by decide) rfl rfl (by decide) rfl rfl wf_X4_18 dX4_copyFrom_31 ?_
  refine R_aload_n X 0 dX4_copyFrom_34 rfl rfl ?_
  have hp13 : k + 3 < zN ∧ lay (k + 3) = (1, 6) := pt_4_3 _ hk.1 hk.2
  refine R_getR X (j := 3) 3 (k + 3) hk rfl inX4 (by decide) rfl rfl (by decide) rfl rfl wf_X4_18 dX4_copyFrom_35 ?_
  obtain ⟨r14, M15, hc16, hf⟩ := zbnd_some hf
  refine R_callNv X (av := [.ref (ad (k1 + 3)), .ref (ad (k + 3))]) (rest := []) (c_X9_copyRow l D cas ad hi hp12 hp13 hc16) zy_X9_copyRow wn_X4_34 rfl rfl ⟨Nat.le_of_ble_eq_true rfl, Nat.le_of_ble_eq_true rfl⟩ ⟨Nat.le_refl _, Nat.le_refl _⟩ (Nat.le_of_ble_eq_true rfl) dX4_copyFrom_38 ?_
  refine R_aload_n X 1 dX4_copyFrom_41 rfl rfl ?_
  have hp17 : k1 + 4 < zN ∧ lay (k1 + 4) = (1, 6) := pt_4_4 _ hk1.1 hk1.2
  refine R_getR X (j := 4) 4 (k1 + 4) hk1 rfl inX4 (by decide) rfl rfl (by decide) rfl rfl wf_X4_21 dX4_copyFrom_42 ?_
  refine R_aload_n X 0 dX4_copyFrom_45 rfl rfl ?_
  have hp18 : k + 4 < zN ∧ lay (k + 4) = (1, 6) := pt_4_4 _ hk.1 hk.2
  refine R_getR X (j := 4) 4 (k + 4) hk rfl inX4 (by decide) rfl rfl (by decide) rfl rfl wf_X4_21 dX4_copyFrom_46 ?_
  obtain ⟨r19, M20, hc21, hf⟩ := zbnd_some hf
  refine R_callNv X (av := [.ref (ad (k1 + 4)), .ref (ad (k + 4))]) (rest := []) (c_X9_copyRow l D cas ad hi hp17 hp18 hc21) zy_X9_copyRow wn_X4_34 rfl rfl ⟨Nat.le_of_ble_eq_true rfl, Nat.le_of_ble_eq_true rfl⟩ ⟨Nat.le_refl _, Nat.le_refl _⟩ (Nat.le_of_ble_eq_true rfl) dX4_copyFrom_49 ?_
  refine R_aload_n X 1 dX4_copyFrom_52 rfl rfl ?_
  have hp22 : k1 + 5 < zN ∧ lay (k1 + 5) = (1, 6) := pt_4_5 _ hk1.1 hk1.2
  refine R_getR X (j := 5) 5 (k1 + 5) hk1 rfl inX4 (by decide) rfl rfl (by decide) rfl rfl wf_X4_24 dX4_copyFrom_53 ?_
  refine R_aload_n X 0 dX4_copyFrom_56 rfl rfl ?_
  have hp23 : k + 5 < zN ∧ lay (k + 5) = (1, 6) := pt_4_5 _ hk.1 hk.2
  refine R_getR X (j := 5) 5 (k + 5) hk rfl inX4 (by decide) rfl rfl (by decide) rfl rfl wf_X4_24 dX4_copyFrom_57 ?_
  obtain ⟨r24, M25, hc26, hf⟩ := zbnd_some hf
  refine R_callNv X (av := [.ref (ad (k1 + 5)), .ref (ad (k + 5))]) (rest := []) (c_X9_copyRow l D cas ad hi hp22 hp23 hc26) zy_X9_copyRow wn_X4_34 rfl rfl ⟨Nat.le_of_ble_eq_true rfl, Nat.le_of_ble_eq_true rfl⟩ ⟨Nat.le_refl _, Nat.le_refl _⟩ (Nat.le_of_ble_eq_true rfl) dX4_copyFrom_60 ?_
  refine R_aload_n X 1 dX4_copyFrom_63 rfl rfl ?_
  have hp27 : k1 + 6 < zN ∧ lay (k1 + 6) = (1, 96) := pt_4_6 _ hk1.1 hk1.2
  refine R_getR X (j := 6) 6 (k1 + 6) hk1 rfl inX4 (by decide) rfl rfl (by decide) rfl rfl wf_X4_27 dX4_copyFrom_64 ?_
  refine R_aload_n X 0 dX4_copyFrom_67 rfl rfl ?_
  have hp28 : k + 6 < zN ∧ lay (k + 6) = (1, 96) := pt_4_6 _ hk.1 hk.2
  refine R_getR X (j := 6) 6 (k + 6) hk rfl inX4 (by decide) rfl rfl (by decide) rfl rfl wf_X4_27 dX4_copyFrom_68 ?_
  obtain ⟨r29, M30, hc31, hf⟩ := zbnd_some hf
  refine R_callNv X (av := [.ref (ad (k1 + 6)), .ref (ad (k + 6))]) (rest := []) (c_X9_copyRow l D cas ad hi hp27 hp28 hc31) zy_X9_copyRow wn_X4_34 rfl rfl ⟨Nat.le_of_ble_eq_true rfl, Nat.le_of_ble_eq_true rfl⟩ ⟨Nat.le_refl _, Nat.le_refl _⟩ (Nat.le_of_ble_eq_true rfl) dX4_copyFrom_71 ?_
  exact R_vret X hr hk0 dX4_copyFrom_74 hf
theorem dX8_copyFrom_0 : decode cX8_copyFrom 0 = .ok (.aload_n 1, 1) := by decide +kernel
theorem dX8_copyFrom_1 : decode cX8_copyFrom 1 = .ok (.getfield 9, 3) := by decide +kernel
theorem dX8_copyFrom_4 : decode cX8_copyFrom 4 = .ok (.aload_n 0, 1) := by decide +kernel
theorem dX8_copyFrom_5 : decode cX8_copyFrom 5 = .ok (.getfield 9, 3) := by decide +kernel
theorem dX8_copyFrom_8 : decode cX8_copyFrom 8 = .ok (.invokestatic 24, 3) := by decide +kernel
theorem dX8_copyFrom_11 : decode cX8_copyFrom 11 = .ok (.aload_n 1, 1) := by decide +kernel
theorem dX8_copyFrom_12 : decode cX8_copyFrom 12 = .ok (.getfield 15, 3) := by decide +kernel
theorem dX8_copyFrom_15 : decode cX8_copyFrom 15 = .ok (.aload_n 0, 1) := by decide +kernel
theorem dX8_copyFrom_16 : decode cX8_copyFrom 16 = .ok (.getfield 15, 3) := by decide +kernel
theorem dX8_copyFrom_19 : decode cX8_copyFrom 19 = .ok (.invokestatic 24, 3) := by decide +kernel
theorem dX8_copyFrom_22 : decode cX8_copyFrom 22 = .ok (.return_, 1) := by decide +kernel
set_option maxRecDepth 100000 in
set_option maxHeartbeats 4000000 in
theorem c_X8_copyFrom (l : Launch) (D : va_G) (cas : Nat → ClassId) (ad : Nat → Nat) (hi : zInj ad) {k : Nat} {k1 : Nat}  (hk : k < zN ∧ lay k = (0, 8)) (hk1 : k1 < zN ∧ lay k1 = (0, 8)) {r : Int} {M M' : Mem} (hf : f_X8_copyFrom k k1 M = some (r, M')) : zMv l D cas ad yX8_copyFrom cX8_copyFrom 2 2 47 [.ref (ad k), .ref (ad k1)] M M' := by
  refine zbody (by decide) (Nat.le_of_ble_eq_true rfl) hi ?_
  intro p e s m args below meth c X hr hk0
  have X : zX p s m args c cX8_copyFrom "ShardTrails$Tracks" 2 D cas ad (zA ad) := X
  unfold f_X8_copyFrom at hf
  refine (?_ : WW p l e (zrm 2 47) s m args below meth c D cas ad (zA ad) 2 0 0 (MQ below (zQv D cas ad M') args s 0 0 (zA ad)) 0 [(0, .ref (ad k)), (1, .ref (ad k1))] [] M)
  refine R_aload_n X 1 dX8_copyFrom_0 rfl rfl ?_
  have hp1 : k1 + 1 < zN ∧ lay (k1 + 1) = (1, 128) := pt_8_0 _ hk1.1 hk1.2
  refine R_getR X (j := 0) 1 (k1 + 1) hk1 rfl inX8 (by decide) rfl rfl (by decide) rfl rfl wf_X8_9 dX8_copyFrom_1 ?_
  refine R_aload_n X 0 dX8_copyFrom_4 rfl rfl ?_
  have hp2 : k + 1 < zN ∧ lay (k + 1) = (1, 128) := pt_8_0 _ hk.1 hk.2
  refine R_getR X (j := 0) 1 (k + 1) hk rfl inX8 (by decide) rfl rfl (by decide) rfl rfl wf_X8_9 dX8_copyFrom_5 ?_
  obtain ⟨r3, M4, hc5, hf⟩ := zbnd_some hf
  refine R_callNv X (av := [.ref (ad (k1 + 1)), .ref (ad (k + 1))]) (rest := []) (c_X9_copyRow l D cas ad hi hp1 hp2 hc5) zy_X9_copyRow wn_X8_24 rfl rfl ⟨Nat.le_of_ble_eq_true rfl, Nat.le_of_ble_eq_true rfl⟩ ⟨Nat.le_refl _, Nat.le_refl _⟩ (Nat.le_of_ble_eq_true rfl) dX8_copyFrom_8 ?_
  refine R_aload_n X 1 dX8_copyFrom_11 rfl rfl ?_
  have hp6 : k1 + 2 < zN ∧ lay (k1 + 2) = (1, 128) := pt_8_1 _ hk1.1 hk1.2
  refine R_getR X (j := 1) 2 (k1 + 2) hk1 rfl inX8 (by decide) rfl rfl (by decide) rfl rfl wf_X8_15 dX8_copyFrom_12 ?_
  refine R_aload_n X 0 dX8_copyFrom_15 rfl rfl ?_
  have hp7 : k + 2 < zN ∧ lay (k + 2) = (1, 128) := pt_8_1 _ hk.1 hk.2
  refine R_getR X (j := 1) 2 (k + 2) hk rfl inX8 (by decide) rfl rfl (by decide) rfl rfl wf_X8_15 dX8_copyFrom_16 ?_
  obtain ⟨r8, M9, hc10, hf⟩ := zbnd_some hf
  refine R_callNv X (av := [.ref (ad (k1 + 2)), .ref (ad (k + 2))]) (rest := []) (c_X9_copyRow l D cas ad hi hp6 hp7 hc10) zy_X9_copyRow wn_X8_24 rfl rfl ⟨Nat.le_of_ble_eq_true rfl, Nat.le_of_ble_eq_true rfl⟩ ⟨Nat.le_refl _, Nat.le_refl _⟩ (Nat.le_of_ble_eq_true rfl) dX8_copyFrom_19 ?_
  exact R_vret X hr hk0 dX8_copyFrom_22 hf
theorem dX7_copyFrom_0 : decode cX7_copyFrom 0 = .ok (.aload_n 0, 1) := by decide +kernel
theorem dX7_copyFrom_1 : decode cX7_copyFrom 1 = .ok (.aload_n 1, 1) := by decide +kernel
theorem dX7_copyFrom_2 : decode cX7_copyFrom 2 = .ok (.getfield 67, 3) := by decide +kernel
theorem dX7_copyFrom_5 : decode cX7_copyFrom 5 = .ok (.putfield 67, 3) := by decide +kernel
theorem dX7_copyFrom_8 : decode cX7_copyFrom 8 = .ok (.aload_n 0, 1) := by decide +kernel
theorem dX7_copyFrom_9 : decode cX7_copyFrom 9 = .ok (.aload_n 1, 1) := by decide +kernel
theorem dX7_copyFrom_10 : decode cX7_copyFrom 10 = .ok (.getfield 71, 3) := by decide +kernel
theorem dX7_copyFrom_13 : decode cX7_copyFrom 13 = .ok (.putfield 71, 3) := by decide +kernel
theorem dX7_copyFrom_16 : decode cX7_copyFrom 16 = .ok (.aload_n 0, 1) := by decide +kernel
theorem dX7_copyFrom_17 : decode cX7_copyFrom 17 = .ok (.aload_n 1, 1) := by decide +kernel
theorem dX7_copyFrom_18 : decode cX7_copyFrom 18 = .ok (.getfield 74, 3) := by decide +kernel
theorem dX7_copyFrom_21 : decode cX7_copyFrom 21 = .ok (.putfield 74, 3) := by decide +kernel
theorem dX7_copyFrom_24 : decode cX7_copyFrom 24 = .ok (.aload_n 1, 1) := by decide +kernel
theorem dX7_copyFrom_25 : decode cX7_copyFrom 25 = .ok (.getfield 18, 3) := by decide +kernel
theorem dX7_copyFrom_28 : decode cX7_copyFrom 28 = .ok (.aload_n 0, 1) := by decide +kernel
theorem dX7_copyFrom_29 : decode cX7_copyFrom 29 = .ok (.getfield 18, 3) := by decide +kernel
theorem dX7_copyFrom_32 : decode cX7_copyFrom 32 = .ok (.invokestatic 77, 3) := by decide +kernel
theorem dX7_copyFrom_35 : decode cX7_copyFrom 35 = .ok (.aload_n 1, 1) := by decide +kernel
theorem dX7_copyFrom_36 : decode cX7_copyFrom 36 = .ok (.getfield 26, 3) := by decide +kernel
theorem dX7_copyFrom_39 : decode cX7_copyFrom 39 = .ok (.aload_n 0, 1) := by decide +kernel
theorem dX7_copyFrom_40 : decode cX7_copyFrom 40 = .ok (.getfield 26, 3) := by decide +kernel
theorem dX7_copyFrom_43 : decode cX7_copyFrom 43 = .ok (.invokestatic 77, 3) := by decide +kernel
theorem dX7_copyFrom_46 : decode cX7_copyFrom 46 = .ok (.aload_n 0, 1) := by decide +kernel
theorem dX7_copyFrom_47 : decode cX7_copyFrom 47 = .ok (.getfield 32, 3) := by decide +kernel
theorem dX7_copyFrom_50 : decode cX7_copyFrom 50 = .ok (.aload_n 1, 1) := by decide +kernel
theorem dX7_copyFrom_51 : decode cX7_copyFrom 51 = .ok (.getfield 32, 3) := by decide +kernel
theorem dX7_copyFrom_54 : decode cX7_copyFrom 54 = .ok (.invokevirtual 81, 3) := by decide +kernel
theorem dX7_copyFrom_57 : decode cX7_copyFrom 57 = .ok (.aload_n 0, 1) := by decide +kernel
theorem dX7_copyFrom_58 : decode cX7_copyFrom 58 = .ok (.getfield 39, 3) := by decide +kernel
theorem dX7_copyFrom_61 : decode cX7_copyFrom 61 = .ok (.aload_n 1, 1) := by decide +kernel
theorem dX7_copyFrom_62 : decode cX7_copyFrom 62 = .ok (.getfield 39, 3) := by decide +kernel
theorem dX7_copyFrom_65 : decode cX7_copyFrom 65 = .ok (.invokevirtual 85, 3) := by decide +kernel
theorem dX7_copyFrom_68 : decode cX7_copyFrom 68 = .ok (.aload_n 0, 1) := by decide +kernel
theorem dX7_copyFrom_69 : decode cX7_copyFrom 69 = .ok (.getfield 46, 3) := by decide +kernel
theorem dX7_copyFrom_72 : decode cX7_copyFrom 72 = .ok (.aload_n 1, 1) := by decide +kernel
theorem dX7_copyFrom_73 : decode cX7_copyFrom 73 = .ok (.getfield 46, 3) := by decide +kernel
theorem dX7_copyFrom_76 : decode cX7_copyFrom 76 = .ok (.invokevirtual 88, 3) := by decide +kernel
theorem dX7_copyFrom_79 : decode cX7_copyFrom 79 = .ok (.aload_n 0, 1) := by decide +kernel
theorem dX7_copyFrom_80 : decode cX7_copyFrom 80 = .ok (.getfield 53, 3) := by decide +kernel
theorem dX7_copyFrom_83 : decode cX7_copyFrom 83 = .ok (.aload_n 1, 1) := by decide +kernel
theorem dX7_copyFrom_84 : decode cX7_copyFrom 84 = .ok (.getfield 53, 3) := by decide +kernel
theorem dX7_copyFrom_87 : decode cX7_copyFrom 87 = .ok (.invokevirtual 91, 3) := by decide +kernel
theorem dX7_copyFrom_90 : decode cX7_copyFrom 90 = .ok (.aload_n 0, 1) := by decide +kernel
theorem dX7_copyFrom_91 : decode cX7_copyFrom 91 = .ok (.getfield 60, 3) := by decide +kernel
theorem dX7_copyFrom_94 : decode cX7_copyFrom 94 = .ok (.aload_n 1, 1) := by decide +kernel
theorem dX7_copyFrom_95 : decode cX7_copyFrom 95 = .ok (.getfield 60, 3) := by decide +kernel
theorem dX7_copyFrom_98 : decode cX7_copyFrom 98 = .ok (.invokevirtual 94, 3) := by decide +kernel
theorem dX7_copyFrom_101 : decode cX7_copyFrom 101 = .ok (.return_, 1) := by decide +kernel
set_option maxRecDepth 100000 in
set_option maxHeartbeats 4000000 in
theorem c_X7_copyFrom (l : Launch) (D : va_G) (cas : Nat → ClassId) (ad : Nat → Nat) (hi : zInj ad) {k : Nat} {k1 : Nat}  (hk : k < zN ∧ lay k = (0, 7)) (hk1 : k1 < zN ∧ lay k1 = (0, 7)) {r : Int} {M M' : Mem} (hf : f_X7_copyFrom k k1 M = some (r, M')) : zMv l D cas ad yX7_copyFrom cX7_copyFrom 2 3 69 [.ref (ad k), .ref (ad k1)] M M' := by
  refine zbody (by decide) (Nat.le_of_ble_eq_true rfl) hi ?_
  intro p e s m args below meth c X hr hk0
  have X : zX p s m args c cX7_copyFrom "ShardTrails$State" 2 D cas ad (zA ad) := X
  unfold f_X7_copyFrom at hf
  refine (?_ : WW p l e (zrm 3 69) s m args below meth c D cas ad (zA ad) 2 0 0 (MQ below (zQv D cas ad M') args s 0 0 (zA ad)) 0 [(0, .ref (ad k)), (1, .ref (ad k1))] [] M)
  refine R_aload_n X 0 dX7_copyFrom_0 rfl rfl ?_
  refine R_aload_n X 1 dX7_copyFrom_1 rfl rfl ?_
  refine R_getI X (j := 0) hk1 rfl inX7 (by decide) rfl rfl rfl wf_X7_67 dX7_copyFrom_2 ?_
  obtain ⟨M1, eM1, hf⟩ := zlt_some hf
  refine R_put X (j := 0) hk rfl inX7 tyX7_ok nmX7 (by decide) rfl rfl rfl wf_X7_67 rfl (by decide +kernel) (z_nI _) (z_fI _) dX7_copyFrom_5 ?_
  refine R_mem eM1 ?_
  refine R_aload_n X 0 dX7_copyFrom_8 rfl rfl ?_
  refine R_aload_n X 1 dX7_copyFrom_9 rfl rfl ?_
  refine R_getI X (j := 1) hk1 rfl inX7 (by decide) rfl rfl rfl wf_X7_71 dX7_copyFrom_10 ?_
  obtain ⟨M2, eM2, hf⟩ := zlt_some hf
  refine R_put X (j := 1) hk rfl inX7 tyX7_ok nmX7 (by decide) rfl rfl rfl wf_X7_71 rfl (by decide +kernel) (z_nI _) (z_fI _) dX7_copyFrom_13 ?_
  refine R_mem eM2 ?_
  refine R_aload_n X 0 dX7_copyFrom_16 rfl rfl ?_
  refine R_aload_n X 1 dX7_copyFrom_17 rfl rfl ?_
  refine R_getI X (j := 2) hk1 rfl inX7 (by decide) rfl rfl rfl wf_X7_74 dX7_copyFrom_18 ?_
  obtain ⟨M3, eM3, hf⟩ := zlt_some hf
  refine R_put X (j := 2) hk rfl inX7 tyX7_ok nmX7 (by decide) rfl rfl rfl wf_X7_74 rfl (by decide +kernel) (z_nI _) (z_fI _) dX7_copyFrom_21 ?_
  refine R_mem eM3 ?_
  refine R_aload_n X 1 dX7_copyFrom_24 rfl rfl ?_
  have hp4 : k1 + 1 < zN ∧ lay (k1 + 1) = (1, 6) := pt_7_3 _ hk1.1 hk1.2
  refine R_getR X (j := 3) 1 (k1 + 1) hk1 rfl inX7 (by decide) rfl rfl (by decide) rfl rfl wf_X7_18 dX7_copyFrom_25 ?_
  refine R_aload_n X 0 dX7_copyFrom_28 rfl rfl ?_
  have hp5 : k + 1 < zN ∧ lay (k + 1) = (1, 6) := pt_7_3 _ hk.1 hk.2
  refine R_getR X (j := 3) 1 (k + 1) hk rfl inX7 (by decide) rfl rfl (by decide) rfl rfl wf_X7_18 dX7_copyFrom_29 ?_
  obtain ⟨r6, M7, hc8, hf⟩ := zbnd_some hf
  refine R_callNv X (av := [.ref (ad (k1 + 1)), .ref (ad (k + 1))]) (rest := []) (c_X9_copyRow l D cas ad hi hp4 hp5 hc8) zy_X9_copyRow wn_X7_77 rfl rfl ⟨Nat.le_of_ble_eq_true rfl, Nat.le_of_ble_eq_true rfl⟩ ⟨Nat.le_refl _, Nat.le_refl _⟩ (Nat.le_of_ble_eq_true rfl) dX7_copyFrom_32 ?_
  refine R_aload_n X 1 dX7_copyFrom_35 rfl rfl ?_
  have hp9 : k1 + 2 < zN ∧ lay (k1 + 2) = (1, 4) := pt_7_4 _ hk1.1 hk1.2
  refine R_getR X (j := 4) 2 (k1 + 2) hk1 rfl inX7 (by decide) rfl rfl (by decide) rfl rfl wf_X7_26 dX7_copyFrom_36 ?_
  refine R_aload_n X 0 dX7_copyFrom_39 rfl rfl ?_
  have hp10 : k + 2 < zN ∧ lay (k + 2) = (1, 4) := pt_7_4 _ hk.1 hk.2
  refine R_getR X (j := 4) 2 (k + 2) hk rfl inX7 (by decide) rfl rfl (by decide) rfl rfl wf_X7_26 dX7_copyFrom_40 ?_
  obtain ⟨r11, M12, hc13, hf⟩ := zbnd_some hf
  refine R_callNv X (av := [.ref (ad (k1 + 2)), .ref (ad (k + 2))]) (rest := []) (c_X9_copyRow l D cas ad hi hp9 hp10 hc13) zy_X9_copyRow wn_X7_77 rfl rfl ⟨Nat.le_of_ble_eq_true rfl, Nat.le_of_ble_eq_true rfl⟩ ⟨Nat.le_refl _, Nat.le_refl _⟩ (Nat.le_of_ble_eq_true rfl) dX7_copyFrom_43 ?_
  refine R_aload_n X 0 dX7_copyFrom_46 rfl rfl ?_
  have hp14 : k + 3 < zN ∧ lay (k + 3) = (0, 2) := pt_7_5 _ hk.1 hk.2
  refine R_getR X (j := 5) 3 (k + 3) hk rfl inX7 (by decide) rfl rfl (by decide) rfl rfl wf_X7_32 dX7_copyFrom_47 ?_
  refine R_aload_n X 1 dX7_copyFrom_50 rfl rfl ?_
  have hp15 : k1 + 3 < zN ∧ lay (k1 + 3) = (0, 2) := pt_7_5 _ hk1.1 hk1.2
  refine R_getR X (j := 5) 3 (k1 + 3) hk1 rfl inX7 (by decide) rfl rfl (by decide) rfl rfl wf_X7_32 dX7_copyFrom_51 ?_
  obtain ⟨r16, M17, hc18, hf⟩ := zbnd_some hf
  refine R_callVv X (av := [.ref (ad (k1 + 3))]) (rest := []) (c_X2_copyFrom l D cas ad hi hp14 hp15 hc18) zy_X2_copyFrom hp14 rfl rfl wm_X7_81 rfl rfl ⟨Nat.le_of_ble_eq_true rfl, Nat.le_of_ble_eq_true rfl⟩ ⟨Nat.le_refl _, Nat.le_refl _⟩ (Nat.le_of_ble_eq_true rfl) dX7_copyFrom_54 ?_
  refine R_aload_n X 0 dX7_copyFrom_57 rfl rfl ?_
  have hp19 : k + 10 < zN ∧ lay (k + 10) = (0, 8) := pt_7_6 _ hk.1 hk.2
  refine R_getR X (j := 6) 10 (k + 10) hk rfl inX7 (by decide) rfl rfl (by decide) rfl rfl wf_X7_39 dX7_copyFrom_58 ?_
  refine R_aload_n X 1 dX7_copyFrom_61 rfl rfl ?_
  have hp20 : k1 + 10 < zN ∧ lay (k1 + 10) = (0, 8) := pt_7_6 _ hk1.1 hk1.2
  refine R_getR X (j := 6) 10 (k1 + 10) hk1 rfl inX7 (by decide) rfl rfl (by decide) rfl rfl wf_X7_39 dX7_copyFrom_62 ?_
  obtain ⟨r21, M22, hc23, hf⟩ := zbnd_some hf
  refine R_callVv X (av := [.ref (ad (k1 + 10))]) (rest := []) (c_X8_copyFrom l D cas ad hi hp19 hp20 hc23) zy_X8_copyFrom hp19 rfl rfl wm_X7_85 rfl rfl ⟨Nat.le_of_ble_eq_true rfl, Nat.le_of_ble_eq_true rfl⟩ ⟨Nat.le_refl _, Nat.le_refl _⟩ (Nat.le_of_ble_eq_true rfl) dX7_copyFrom_65 ?_
  refine R_aload_n X 0 dX7_copyFrom_68 rfl rfl ?_
  have hp24 : k + 13 < zN ∧ lay (k + 13) = (0, 0) := pt_7_7 _ hk.1 hk.2
  refine R_getR X (j := 7) 13 (k + 13) hk rfl inX7 (by decide) rfl rfl (by decide) rfl rfl wf_X7_46 dX7_copyFrom_69 ?_
  refine R_aload_n X 1 dX7_copyFrom_72 rfl rfl ?_
  have hp25 : k1 + 13 < zN ∧ lay (k1 + 13) = (0, 0) := pt_7_7 _ hk1.1 hk1.2
  refine R_getR X (j := 7) 13 (k1 + 13) hk1 rfl inX7 (by decide) rfl rfl (by decide) rfl rfl wf_X7_46 dX7_copyFrom_73 ?_
  obtain ⟨r26, M27, hc28, hf⟩ := zbnd_some hf
  refine R_callVv X (av := [.ref (ad (k1 + 13))]) (rest := []) (c_X0_copyFrom l D cas ad hi hp24 hp25 hc28) zy_X0_copyFrom hp24 rfl rfl wm_X7_88 rfl rfl ⟨Nat.le_of_ble_eq_true rfl, Nat.le_of_ble_eq_true rfl⟩ ⟨Nat.le_refl _, Nat.le_refl _⟩ (Nat.le_of_ble_eq_true rfl) dX7_copyFrom_76 ?_
  refine R_aload_n X 0 dX7_copyFrom_79 rfl rfl ?_
  have hp29 : k + 18 < zN ∧ lay (k + 18) = (0, 3) := pt_7_8 _ hk.1 hk.2
  refine R_getR X (j := 8) 18 (k + 18) hk rfl inX7 (by decide) rfl rfl (by decide) rfl rfl wf_X7_53 dX7_copyFrom_80 ?_
  refine R_aload_n X 1 dX7_copyFrom_83 rfl rfl ?_
  have hp30 : k1 + 18 < zN ∧ lay (k1 + 18) = (0, 3) := pt_7_8 _ hk1.1 hk1.2
  refine R_getR X (j := 8) 18 (k1 + 18) hk1 rfl inX7 (by decide) rfl rfl (by decide) rfl rfl wf_X7_53 dX7_copyFrom_84 ?_
  obtain ⟨r31, M32, hc33, hf⟩ := zbnd_some hf
  refine R_callVv X (av := [.ref (ad (k1 + 18))]) (rest := []) (c_X3_copyFrom l D cas ad hi hp29 hp30 hc33) zy_X3_copyFrom hp29 rfl rfl wm_X7_91 rfl rfl ⟨Nat.le_of_ble_eq_true rfl, Nat.le_of_ble_eq_true rfl⟩ ⟨Nat.le_refl _, Nat.le_refl _⟩ (Nat.le_of_ble_eq_true rfl) dX7_copyFrom_87 ?_
  refine R_aload_n X 0 dX7_copyFrom_90 rfl rfl ?_
  have hp34 : k + 21 < zN ∧ lay (k + 21) = (0, 4) := pt_7_9 _ hk.1 hk.2
  refine R_getR X (j := 9) 21 (k + 21) hk rfl inX7 (by decide) rfl rfl (by decide) rfl rfl wf_X7_60 dX7_copyFrom_91 ?_
  refine R_aload_n X 1 dX7_copyFrom_94 rfl rfl ?_
  have hp35 : k1 + 21 < zN ∧ lay (k1 + 21) = (0, 4) := pt_7_9 _ hk1.1 hk1.2
  refine R_getR X (j := 9) 21 (k1 + 21) hk1 rfl inX7 (by decide) rfl rfl (by decide) rfl rfl wf_X7_60 dX7_copyFrom_95 ?_
  obtain ⟨r36, M37, hc38, hf⟩ := zbnd_some hf
  refine R_callVv X (av := [.ref (ad (k1 + 21))]) (rest := []) (c_X4_copyFrom l D cas ad hi hp34 hp35 hc38) zy_X4_copyFrom hp34 rfl rfl wm_X7_94 rfl rfl ⟨Nat.le_of_ble_eq_true rfl, Nat.le_of_ble_eq_true rfl⟩ ⟨Nat.le_refl _, Nat.le_refl _⟩ (Nat.le_of_ble_eq_true rfl) dX7_copyFrom_98 ?_
  exact R_vret X hr hk0 dX7_copyFrom_101 hf
theorem dX1_store_0 : decode cX1_store 0 = .ok (.aload_n 0, 1) := by decide +kernel
theorem dX1_store_1 : decode cX1_store 1 = .ok (.getfield 11, 3) := by decide +kernel
theorem dX1_store_4 : decode cX1_store 4 = .ok (.aload_n 0, 1) := by decide +kernel
theorem dX1_store_5 : decode cX1_store 5 = .ok (.getfield 18, 3) := by decide +kernel
theorem dX1_store_8 : decode cX1_store 8 = .ok (.aload_n 0, 1) := by decide +kernel
theorem dX1_store_9 : decode cX1_store 9 = .ok (.getfield 22, 3) := by decide +kernel
theorem dX1_store_12 : decode cX1_store 12 = .ok (.iadd, 1) := by decide +kernel
theorem dX1_store_13 : decode cX1_store 13 = .ok (.iconst 4, 1) := by decide +kernel
theorem dX1_store_14 : decode cX1_store 14 = .ok (.irem, 1) := by decide +kernel
theorem dX1_store_15 : decode cX1_store 15 = .ok (.aaload, 1) := by decide +kernel
theorem dX1_store_16 : decode cX1_store 16 = .ok (.aload_n 1, 1) := by decide +kernel
theorem dX1_store_17 : decode cX1_store 17 = .ok (.invokevirtual 25, 3) := by decide +kernel
theorem dX1_store_20 : decode cX1_store 20 = .ok (.aload_n 0, 1) := by decide +kernel
theorem dX1_store_21 : decode cX1_store 21 = .ok (.getfield 22, 3) := by decide +kernel
theorem dX1_store_24 : decode cX1_store 24 = .ok (.iconst 4, 1) := by decide +kernel
theorem dX1_store_25 : decode cX1_store 25 = .ok (.if_icmp .ge 16, 3) := by decide +kernel
theorem dX1_store_28 : decode cX1_store 28 = .ok (.aload_n 0, 1) := by decide +kernel
theorem dX1_store_29 : decode cX1_store 29 = .ok (.dup, 1) := by decide +kernel
theorem dX1_store_30 : decode cX1_store 30 = .ok (.getfield 22, 3) := by decide +kernel
theorem dX1_store_33 : decode cX1_store 33 = .ok (.iconst 1, 1) := by decide +kernel
theorem dX1_store_34 : decode cX1_store 34 = .ok (.iadd, 1) := by decide +kernel
theorem dX1_store_35 : decode cX1_store 35 = .ok (.putfield 22, 3) := by decide +kernel
theorem dX1_store_38 : decode cX1_store 38 = .ok (.goto 15, 3) := by decide +kernel
theorem dX1_store_41 : decode cX1_store 41 = .ok (.aload_n 0, 1) := by decide +kernel
theorem dX1_store_42 : decode cX1_store 42 = .ok (.aload_n 0, 1) := by decide +kernel
theorem dX1_store_43 : decode cX1_store 43 = .ok (.getfield 18, 3) := by decide +kernel
theorem dX1_store_46 : decode cX1_store 46 = .ok (.iconst 1, 1) := by decide +kernel
theorem dX1_store_47 : decode cX1_store 47 = .ok (.iadd, 1) := by decide +kernel
theorem dX1_store_48 : decode cX1_store 48 = .ok (.iconst 4, 1) := by decide +kernel
theorem dX1_store_49 : decode cX1_store 49 = .ok (.irem, 1) := by decide +kernel
theorem dX1_store_50 : decode cX1_store 50 = .ok (.putfield 18, 3) := by decide +kernel
theorem dX1_store_53 : decode cX1_store 53 = .ok (.return_, 1) := by decide +kernel
set_option maxRecDepth 100000 in
set_option maxHeartbeats 4000000 in
theorem c_X1_store (l : Launch) (D : va_G) (cas : Nat → ClassId) (ad : Nat → Nat) (hi : zInj ad) {k1 : Nat}  (hk1 : k1 < zN ∧ lay k1 = (0, 7)) {r : Int} {M M' : Mem} (hf : f_X1_store k1 M = some (r, M')) : zMv l D cas ad yX1_store cX1_store 2 4 90 [.ref (ad 88), .ref (ad k1)] M M' := by
  refine zbody (by decide) (Nat.le_of_ble_eq_true rfl) hi ?_
  intro p e s m args below meth c X hr hk0
  have X : zX p s m args c cX1_store "ShardTrails$History" 2 D cas ad (zA ad) := X
  have hB53 : ∀ (M : Mem), f_X1_store_b53 k1 M = some (r, M') → WW p l e (zrm 4 90) s m args below meth c D cas ad (zA ad) 2 0 0 (MQ below (zQv D cas ad M') args s 0 0 (zA ad)) 53 [] [] M := by
    intro M hf
    unfold f_X1_store_b53 at hf
    exact R_vret X hr hk0 dX1_store_53 hf
  unfold f_X1_store at hf
  refine (?_ : WW p l e (zrm 4 90) s m args below meth c D cas ad (zA ad) 2 0 0 (MQ below (zQv D cas ad M') args s 0 0 (zA ad)) 0 [(0, .ref (ad 88)), (1, .ref (ad k1))] [] M)
  refine R_aload_n X 0 dX1_store_0 rfl rfl ?_
  refine R_getR X (j := 2) 1 89 lc_88 rfl inX1 (by decide) rfl rfl (by decide) rfl rfl wf_X1_11 dX1_store_1 ?_
  refine R_aload_n X 0 dX1_store_4 rfl rfl ?_
  refine R_getI X (j := 1) lc_88 rfl inX1 (by decide) rfl rfl rfl wf_X1_18 dX1_store_5 ?_
  refine R_aload_n X 0 dX1_store_8 rfl rfl ?_
  refine R_getI X (j := 0) lc_88 rfl inX1 (by decide) rfl rfl rfl wf_X1_22 dX1_store_9 ?_
  refine R_iadd X dX1_store_12 ?_
  refine R_iconst X dX1_store_13 ?_
  obtain ⟨hq1, hf⟩ := zgrd hf
  refine R_irem X ⟨⟨hq1, (by decide)⟩, (by decide)⟩ dX1_store_14 ?_
  obtain ⟨hq2, hf⟩ := zgrd hf
  refine R_aald X (90 + 29 * (((M 88 1) + (M 88 0)).tmod 4).toNat) lc_89 hq2 rfl dX1_store_15 ?_
  refine R_aload_n X 1 dX1_store_16 rfl rfl ?_
  obtain ⟨r3, M4, hc5, hf⟩ := zbnd_some hf
  refine R_callVv X (av := [.ref (ad k1)]) (rest := []) (c_X7_copyFrom l D cas ad hi (pt_st hq2) hk1 hc5) zy_X7_copyFrom (pt_st hq2) rfl rfl wm_X1_25 rfl rfl ⟨Nat.le_of_ble_eq_true rfl, Nat.le_of_ble_eq_true rfl⟩ ⟨Nat.le_refl _, Nat.le_refl _⟩ (Nat.le_of_ble_eq_true rfl) dX1_store_17 ?_
  refine R_aload_n X 0 dX1_store_20 rfl rfl ?_
  refine R_getI X (j := 0) lc_88 rfl inX1 (by decide) rfl rfl rfl wf_X1_22 dX1_store_21 ?_
  refine R_iconst X dX1_store_24 ?_
  obtain ⟨hq6, hf⟩ := zgrd hf
  refine R_icmp_ge X 41 ⟨hq6, (by decide)⟩ dX1_store_25 (by decide) (fun c10 => ?_) (fun c10 => ?_)
  · have hf := zthen hf c10
    refine R_aload_n X 0 dX1_store_41 rfl rfl ?_
    refine R_aload_n X 0 dX1_store_42 rfl rfl ?_
    refine R_getI X (j := 1) lc_88 rfl inX1 (by decide) rfl rfl rfl wf_X1_18 dX1_store_43 ?_
    refine R_iconst X dX1_store_46 ?_
    refine R_iadd X dX1_store_47 ?_
    refine R_iconst X dX1_store_48 ?_
    obtain ⟨hq7, hf⟩ := zgrd hf
    refine R_irem X ⟨⟨hq7, (by decide)⟩, (by decide)⟩ dX1_store_49 ?_
    obtain ⟨M8, eM8, hf⟩ := zlt_some hf
    refine R_put X (j := 1) lc_88 rfl inX1 tyX1_ok nmX1 (by decide) rfl rfl rfl wf_X1_18 rfl (by decide +kernel) (z_nI _) (z_fI _) dX1_store_50 ?_
    refine R_mem eM8 ?_
    exact R_sub [] rfl (hB53 M8 hf)
  · have hf := zelse hf c10
    refine R_aload_n X 0 dX1_store_28 rfl rfl ?_
    refine R_dup X dX1_store_29 rfl ?_
    refine R_getI X (j := 0) lc_88 rfl inX1 (by decide) rfl rfl rfl wf_X1_22 dX1_store_30 ?_
    refine R_iconst X dX1_store_33 ?_
    refine R_iadd X dX1_store_34 ?_
    obtain ⟨M9, eM9, hf⟩ := zlt_some hf
    refine R_put X (j := 0) lc_88 rfl inX1 tyX1_ok nmX1 (by decide) rfl rfl rfl wf_X1_22 rfl (by decide +kernel) (z_nI _) (z_fI _) dX1_store_35 ?_
    refine R_mem eM9 ?_
    refine R_goto X 53 dX1_store_38 (by decide) ?_
    exact R_sub [] rfl (hB53 M9 hf)
theorem dX2_found_0 : decode cX2_found 0 = .ok (.aload_n 0, 1) := by decide +kernel
theorem dX2_found_1 : decode cX2_found 1 = .ok (.getfield 37, 3) := by decide +kernel
theorem dX2_found_4 : decode cX2_found 4 = .ok (.istore 4, 2) := by decide +kernel
theorem dX2_found_6 : decode cX2_found 6 = .ok (.aload_n 0, 1) := by decide +kernel
theorem dX2_found_7 : decode cX2_found 7 = .ok (.getfield 9, 3) := by decide +kernel
theorem dX2_found_10 : decode cX2_found 10 = .ok (.iload 4, 2) := by decide +kernel
theorem dX2_found_12 : decode cX2_found 12 = .ok (.iload_n 1, 1) := by decide +kernel
theorem dX2_found_13 : decode cX2_found 13 = .ok (.iastore, 1) := by decide +kernel
theorem dX2_found_14 : decode cX2_found 14 = .ok (.aload_n 0, 1) := by decide +kernel
theorem dX2_found_15 : decode cX2_found 15 = .ok (.getfield 15, 3) := by decide +kernel
theorem dX2_found_18 : decode cX2_found 18 = .ok (.iload 4, 2) := by decide +kernel
theorem dX2_found_20 : decode cX2_found 20 = .ok (.iload_n 2, 1) := by decide +kernel
theorem dX2_found_21 : decode cX2_found 21 = .ok (.iastore, 1) := by decide +kernel
theorem dX2_found_22 : decode cX2_found 22 = .ok (.aload_n 0, 1) := by decide +kernel
theorem dX2_found_23 : decode cX2_found 23 = .ok (.getfield 24, 3) := by decide +kernel
theorem dX2_found_26 : decode cX2_found 26 = .ok (.iload 4, 2) := by decide +kernel
theorem dX2_found_28 : decode cX2_found 28 = .ok (.iload_n 3, 1) := by decide +kernel
theorem dX2_found_29 : decode cX2_found 29 = .ok (.bastore, 1) := by decide +kernel
theorem dX2_found_30 : decode cX2_found 30 = .ok (.aload_n 0, 1) := by decide +kernel
theorem dX2_found_31 : decode cX2_found 31 = .ok (.dup, 1) := by decide +kernel
theorem dX2_found_32 : decode cX2_found 32 = .ok (.getfield 37, 3) := by decide +kernel
theorem dX2_found_35 : decode cX2_found 35 = .ok (.iconst 1, 1) := by decide +kernel
theorem dX2_found_36 : decode cX2_found 36 = .ok (.iadd, 1) := by decide +kernel
theorem dX2_found_37 : decode cX2_found 37 = .ok (.putfield 37, 3) := by decide +kernel
theorem dX2_found_40 : decode cX2_found 40 = .ok (.iload 4, 2) := by decide +kernel
theorem dX2_found_42 : decode cX2_found 42 = .ok (.ireturn, 1) := by decide +kernel
set_option maxRecDepth 100000 in
set_option maxHeartbeats 4000000 in
theorem c_X2_found (l : Launch) (D : va_G) (cas : Nat → ClassId) (ad : Nat → Nat) (hi : zInj ad) {k : Nat} {v1 : Int} {v2 : Int} {v3 : Int} (hk : k < zN ∧ lay k = (0, 2)) {r : Int} {M M' : Mem} (hf : f_X2_found k v1 v2 v3 M = some (r, M')) : zMi l D cas ad yX2_found cX2_found 5 (some .int) 0 0 [.ref (ad k), .int (zI v1), .int (zI v2), .int (zI v3)] M r M' := by
  refine zbody (by decide) (Nat.le_of_ble_eq_true rfl) hi ?_
  intro p e s m args below meth c X hr hk0
  have X : zX p s m args c cX2_found "ShardTrails$Land" 5 D cas ad (zA ad) := X
  unfold f_X2_found at hf
  refine (?_ : WW p l e (zrm 0 0) s m args below meth c D cas ad (zA ad) 5 0 0 (MQ below (zQi D cas ad r M') args s 0 0 (zA ad)) 0 [(0, .ref (ad k)), (1, .int (zI v1)), (2, .int (zI v2)), (3, .int (zI v3))] [] M)
  refine R_aload_n X 0 dX2_found_0 rfl rfl ?_
  refine R_getI X (j := 0) hk rfl inX2 (by decide) rfl rfl rfl wf_X2_37 dX2_found_1 ?_
  obtain ⟨x1, ex1, hf⟩ := zlt_some hf
  refine R_istoreX X (lv' := [(4, .int (zI x1)), (0, .ref (ad k)), (1, .int (zI v1)), (2, .int (zI v2)), (3, .int (zI v3))]) ex1 dX2_found_4 (by decide) rfl ?_
  refine R_aload_n X 1 dX2_found_6 rfl rfl ?_
  have hp2 : k + 1 < zN ∧ lay (k + 1) = (1, 8) := pt_2_1 _ hk.1 hk.2
  refine R_getR X (j := 1) 1 (k + 1) hk rfl inX2 (by decide) rfl rfl (by decide) rfl rfl wf_X2_9 dX2_found_7 ?_
  refine R_iload X 0 dX2_found_10 rfl ?_
  refine R_iload_n X 2 dX2_found_12 rfl rfl ?_
  obtain ⟨hq3, hf⟩ := zgrd hf
  obtain ⟨M4, eM4, hf⟩ := zlt_some hf
  refine R_iast X hp2 hq3 dX2_found_13 ?_
  refine R_mem eM4 ?_
  refine R_aload_n X 1 dX2_found_14 rfl rfl ?_
  have hp5 : k + 2 < zN ∧ lay (k + 2) = (1, 8) := pt_2_2 _ hk.1 hk.2
  refine R_getR X (j := 2) 2 (k + 2) hk rfl inX2 (by decide) rfl rfl (by decide) rfl rfl wf_X2_15 dX2_found_15 ?_
  refine R_iload X 0 dX2_found_18 rfl ?_
  refine R_iload_n X 3 dX2_found_20 rfl rfl ?_
  obtain ⟨M6, eM6, hf⟩ := zlt_some hf
  refine R_iast X hp5 hq3 dX2_found_21 ?_
  refine R_mem eM6 ?_
  refine R_aload_n X 1 dX2_found_22 rfl rfl ?_
  have hp7 : k + 5 < zN ∧ lay (k + 5) = (2, 8) := pt_2_5 _ hk.1 hk.2
  refine R_getR X (j := 5) 5 (k + 5) hk rfl inX2 (by decide) rfl rfl (by decide) rfl rfl wf_X2_24 dX2_found_23 ?_
  refine R_iload X 0 dX2_found_26 rfl ?_
  refine R_iload_n X 4 dX2_found_28 rfl rfl ?_
  obtain ⟨hq8, hf⟩ := zgrd hf
  obtain ⟨M9, eM9, hf⟩ := zlt_some hf
  refine R_zast X hp7 hq3 hq8 dX2_found_29 ?_
  refine R_mem eM9 ?_
  refine R_aload_n X 1 dX2_found_30 rfl rfl ?_
  refine R_dup X dX2_found_31 rfl ?_
  refine R_getI X (j := 0) hk rfl inX2 (by decide) rfl rfl rfl wf_X2_37 dX2_found_32 ?_
  refine R_iconst X dX2_found_35 ?_
  refine R_iadd X dX2_found_36 ?_
  obtain ⟨M10, eM10, hf⟩ := zlt_some hf
  refine R_put X (j := 0) hk rfl inX2 tyX2_ok nmX2 (by decide) rfl rfl rfl wf_X2_37 rfl (by decide +kernel) (z_nI _) (z_fI _) dX2_found_37 ?_
  refine R_mem eM10 ?_
  refine R_iload X 0 dX2_found_40 rfl ?_
  exact R_iret X hr hk0 dX2_found_42 hf
theorem dX9_addPasture_0 : decode cX9_addPasture 0 = .ok (.iload_n 1, 1) := by decide +kernel
theorem dX9_addPasture_1 : decode cX9_addPasture 1 = .ok (.iconst 0, 1) := by decide +kernel
theorem dX9_addPasture_2 : decode cX9_addPasture 2 = .ok (.bipush 90, 2) := by decide +kernel
theorem dX9_addPasture_4 : decode cX9_addPasture 4 = .ok (.invokestatic 43, 3) := by decide +kernel
theorem dX9_addPasture_7 : decode cX9_addPasture 7 = .ok (.ifCond .eq 13, 3) := by decide +kernel
theorem dX9_addPasture_10 : decode cX9_addPasture 10 = .ok (.iload_n 2, 1) := by decide +kernel
theorem dX9_addPasture_11 : decode cX9_addPasture 11 = .ok (.iconst 1, 1) := by decide +kernel
theorem dX9_addPasture_12 : decode cX9_addPasture 12 = .ok (.bipush 16, 2) := by decide +kernel
theorem dX9_addPasture_14 : decode cX9_addPasture 14 = .ok (.invokestatic 43, 3) := by decide +kernel
theorem dX9_addPasture_17 : decode cX9_addPasture 17 = .ok (.ifCond .ne 6, 3) := by decide +kernel
theorem dX9_addPasture_20 : decode cX9_addPasture 20 = .ok (.bipush (-2), 2) := by decide +kernel
theorem dX9_addPasture_22 : decode cX9_addPasture 22 = .ok (.ireturn, 1) := by decide +kernel
theorem dX9_addPasture_23 : decode cX9_addPasture 23 = .ok (.aload_n 0, 1) := by decide +kernel
theorem dX9_addPasture_24 : decode cX9_addPasture 24 = .ok (.getfield 12, 3) := by decide +kernel
theorem dX9_addPasture_27 : decode cX9_addPasture 27 = .ok (.getfield 47, 3) := by decide +kernel
theorem dX9_addPasture_30 : decode cX9_addPasture 30 = .ok (.getfield 51, 3) := by decide +kernel
theorem dX9_addPasture_33 : decode cX9_addPasture 33 = .ok (.bipush 8, 2) := by decide +kernel
theorem dX9_addPasture_35 : decode cX9_addPasture 35 = .ok (.if_icmp .lt 6, 3) := by decide +kernel
theorem dX9_addPasture_38 : decode cX9_addPasture 38 = .ok (.bipush (-3), 2) := by decide +kernel
theorem dX9_addPasture_40 : decode cX9_addPasture 40 = .ok (.ireturn, 1) := by decide +kernel
theorem dX9_addPasture_41 : decode cX9_addPasture 41 = .ok (.aload_n 0, 1) := by decide +kernel
theorem dX9_addPasture_42 : decode cX9_addPasture 42 = .ok (.getfield 25, 3) := by decide +kernel
theorem dX9_addPasture_45 : decode cX9_addPasture 45 = .ok (.aload_n 0, 1) := by decide +kernel
theorem dX9_addPasture_46 : decode cX9_addPasture 46 = .ok (.getfield 12, 3) := by decide +kernel
theorem dX9_addPasture_49 : decode cX9_addPasture 49 = .ok (.invokevirtual 57, 3) := by decide +kernel
theorem dX9_addPasture_52 : decode cX9_addPasture 52 = .ok (.aload_n 0, 1) := by decide +kernel
theorem dX9_addPasture_53 : decode cX9_addPasture 53 = .ok (.getfield 12, 3) := by decide +kernel
theorem dX9_addPasture_56 : decode cX9_addPasture 56 = .ok (.getfield 47, 3) := by decide +kernel
theorem dX9_addPasture_59 : decode cX9_addPasture 59 = .ok (.iload_n 1, 1) := by decide +kernel
theorem dX9_addPasture_60 : decode cX9_addPasture 60 = .ok (.iload_n 2, 1) := by decide +kernel
theorem dX9_addPasture_61 : decode cX9_addPasture 61 = .ok (.iload_n 3, 1) := by decide +kernel
theorem dX9_addPasture_62 : decode cX9_addPasture 62 = .ok (.invokevirtual 61, 3) := by decide +kernel
theorem dX9_addPasture_65 : decode cX9_addPasture 65 = .ok (.ireturn, 1) := by decide +kernel
set_option maxRecDepth 100000 in
set_option maxHeartbeats 4000000 in
theorem c_X9_addPasture (l : Launch) (D : va_G) (cas : Nat → ClassId) (ad : Nat → Nat) (hi : zInj ad) {v1 : Int} {v2 : Int} {v3 : Int}  {r : Int} {M M' : Mem} (hf : f_X9_addPasture v1 v2 v3 M = some (r, M')) : zMi l D cas ad yX9_addPasture cX9_addPasture 4 (some .int) 5 111 [.ref (ad 0), .int (zI v1), .int (zI v2), .int (zI v3)] M r M' := by
  refine zbody (by decide) (Nat.le_of_ble_eq_true rfl) hi ?_
  intro p e s m args below meth c X hr hk0
  have X : zX p s m args c cX9_addPasture "ShardTrails" 4 D cas ad (zA ad) := X
  have hB20 : ∀ (M : Mem), f_X9_addPasture_b20 M = some (r, M') → WW p l e (zrm 5 111) s m args below meth c D cas ad (zA ad) 4 0 0 (MQ below (zQi D cas ad r M') args s 0 0 (zA ad)) 20 [] [] M := by
    intro M hf
    unfold f_X9_addPasture_b20 at hf
    refine R_bipush X dX9_addPasture_20 (by decide +kernel) ?_
    exact R_iret X hr hk0 dX9_addPasture_22 hf
  unfold f_X9_addPasture at hf
  refine (?_ : WW p l e (zrm 5 111) s m args below meth c D cas ad (zA ad) 4 0 0 (MQ below (zQi D cas ad r M') args s 0 0 (zA ad)) 0 [(0, .ref (ad 0)), (1, .int (zI v1)), (2, .int (zI v2)), (3, .int (zI v3))] [] M)
  refine R_iload_n X 1 dX9_addPasture_0 rfl rfl ?_
  refine R_iconst X dX9_addPasture_1 ?_
  refine R_bipush X dX9_addPasture_2 (by decide +kernel) ?_
  obtain ⟨r1, M2, hc3, hf⟩ := zbnd_some hf
  refine R_callSi X (av := [.int (zI v1), .int (zI 0), .int (zI 90)]) (rest := []) (c_X9_isWithin l D cas ad hi hc3) zy_X9_isWithin wm_X9_43 rfl rfl ⟨Nat.le_of_ble_eq_true rfl, Nat.le_of_ble_eq_true rfl⟩ ⟨Nat.le_refl _, Nat.le_refl _⟩ (Nat.le_of_ble_eq_true rfl) dX9_addPasture_4 ?_
  obtain ⟨hq4, hf⟩ := zgrd hf
  refine R_if_eq X 20 hq4 dX9_addPasture_7 (by decide) (fun c18 => ?_) (fun c18 => ?_)
  · have hf := zthen hf c18
    exact R_sub [] rfl (hB20 M2 hf)
  · have hf := zelse hf c18
    refine R_iload_n X 2 dX9_addPasture_10 rfl rfl ?_
    refine R_iconst X dX9_addPasture_11 ?_
    refine R_bipush X dX9_addPasture_12 (by decide +kernel) ?_
    obtain ⟨r5, M6, hc7, hf⟩ := zbnd_some hf
    refine R_callSi X (av := [.int (zI v2), .int (zI 1), .int (zI 16)]) (rest := []) (c_X9_isWithin l D cas ad hi hc7) zy_X9_isWithin wm_X9_43 rfl rfl ⟨Nat.le_of_ble_eq_true rfl, Nat.le_of_ble_eq_true rfl⟩ ⟨Nat.le_refl _, Nat.le_refl _⟩ (Nat.le_of_ble_eq_true rfl) dX9_addPasture_14 ?_
    obtain ⟨hq8, hf⟩ := zgrd hf
    refine R_if_ne X 23 hq8 dX9_addPasture_17 (by decide) (fun c17 => ?_) (fun c17 => ?_)
    · have hf := zelse hf c17
      refine R_aload_n X 0 dX9_addPasture_23 rfl rfl ?_
      refine R_getR X (j := 0) 1 1 lc_0 rfl inX9 (by decide) rfl rfl (by decide) rfl rfl wf_X9_12 dX9_addPasture_24 ?_
      refine R_getR X (j := 5) 3 4 lc_1 rfl inX7 (by decide) rfl rfl (by decide) rfl rfl wf_X9_47 dX9_addPasture_27 ?_
      refine R_getI X (j := 0) lc_4 rfl inX2 (by decide) rfl rfl rfl wf_X9_51 dX9_addPasture_30 ?_
      refine R_bipush X dX9_addPasture_33 (by decide +kernel) ?_
      obtain ⟨hq9, hf⟩ := zgrd hf
      refine R_icmp_lt X 41 ⟨hq9, (by decide)⟩ dX9_addPasture_35 (by decide) (fun c16 => ?_) (fun c16 => ?_)
      · have hf := zthen hf c16
        refine R_aload_n X 0 dX9_addPasture_41 rfl rfl ?_
        refine R_getR X (j := 3) 88 88 lc_0 rfl inX9 (by decide) rfl rfl (by decide) rfl rfl wf_X9_25 dX9_addPasture_42 ?_
        refine R_aload_n X 0 dX9_addPasture_45 rfl rfl ?_
        refine R_getR X (j := 0) 1 1 lc_0 rfl inX9 (by decide) rfl rfl (by decide) rfl rfl wf_X9_12 dX9_addPasture_46 ?_
        obtain ⟨r10, M11, hc12, hf⟩ := zbnd_some hf
        refine R_callVv X (av := [.ref (ad 1)]) (rest := []) (c_X1_store l D cas ad hi lc_1 hc12) zy_X1_store lc_88 rfl rfl wm_X9_57 rfl rfl ⟨Nat.le_of_ble_eq_true rfl, Nat.le_of_ble_eq_true rfl⟩ ⟨Nat.le_refl _, Nat.le_refl _⟩ (Nat.le_of_ble_eq_true rfl) dX9_addPasture_49 ?_
        refine R_aload_n X 0 dX9_addPasture_52 rfl rfl ?_
        refine R_getR X (j := 0) 1 1 lc_0 rfl inX9 (by decide) rfl rfl (by decide) rfl rfl wf_X9_12 dX9_addPasture_53 ?_
        refine R_getR X (j := 5) 3 4 lc_1 rfl inX7 (by decide) rfl rfl (by decide) rfl rfl wf_X9_47 dX9_addPasture_56 ?_
        refine R_iload_n X 1 dX9_addPasture_59 rfl rfl ?_
        refine R_iload_n X 2 dX9_addPasture_60 rfl rfl ?_
        refine R_iload_n X 3 dX9_addPasture_61 rfl rfl ?_
        obtain ⟨r13, M14, hc15, hf⟩ := zbnd_some hf
        refine R_callVi X (av := [.int (zI v1), .int (zI v2), .int (zI v3)]) (rest := []) (c_X2_found l D cas ad hi lc_4 hc15) zy_X2_found lc_4 rfl rfl wm_X9_61 rfl rfl ⟨Nat.le_of_ble_eq_true rfl, Nat.le_of_ble_eq_true rfl⟩ ⟨Nat.le_refl _, Nat.le_refl _⟩ (Nat.le_of_ble_eq_true rfl) dX9_addPasture_62 ?_
        exact R_iret X hr hk0 dX9_addPasture_65 hf
      · have hf := zelse hf c16
        refine R_bipush X dX9_addPasture_38 (by decide +kernel) ?_
        exact R_iret X hr hk0 dX9_addPasture_40 hf
    · have hf := zthen hf c17
      exact R_sub [] rfl (hB20 M6 hf)
theorem dX9_isPasture_0 : decode cX9_isPasture 0 = .ok (.iload_n 1, 1) := by decide +kernel
theorem dX9_isPasture_1 : decode cX9_isPasture 1 = .ok (.iconst 0, 1) := by decide +kernel
theorem dX9_isPasture_2 : decode cX9_isPasture 2 = .ok (.aload_n 0, 1) := by decide +kernel
theorem dX9_isPasture_3 : decode cX9_isPasture 3 = .ok (.getfield 12, 3) := by decide +kernel
theorem dX9_isPasture_6 : decode cX9_isPasture 6 = .ok (.getfield 47, 3) := by decide +kernel
theorem dX9_isPasture_9 : decode cX9_isPasture 9 = .ok (.getfield 51, 3) := by decide +kernel
theorem dX9_isPasture_12 : decode cX9_isPasture 12 = .ok (.iconst 1, 1) := by decide +kernel
theorem dX9_isPasture_13 : decode cX9_isPasture 13 = .ok (.isub, 1) := by decide +kernel
theorem dX9_isPasture_14 : decode cX9_isPasture 14 = .ok (.invokestatic 43, 3) := by decide +kernel
theorem dX9_isPasture_17 : decode cX9_isPasture 17 = .ok (.ireturn, 1) := by decide +kernel
set_option maxRecDepth 100000 in
set_option maxHeartbeats 4000000 in
theorem c_X9_isPasture (l : Launch) (D : va_G) (cas : Nat → ClassId) (ad : Nat → Nat) (hi : zInj ad) {v1 : Int}  {r : Int} {M M' : Mem} (hf : f_X9_isPasture v1 M = some (r, M')) : zMi l D cas ad yX9_isPasture cX9_isPasture 2 (some .boolean) 1 22 [.ref (ad 0), .int (zI v1)] M r M' := by
  refine zbody (by decide) (Nat.le_of_ble_eq_true rfl) hi ?_
  intro p e s m args below meth c X hr hk0
  have X : zX p s m args c cX9_isPasture "ShardTrails" 2 D cas ad (zA ad) := X
  unfold f_X9_isPasture at hf
  refine (?_ : WW p l e (zrm 1 22) s m args below meth c D cas ad (zA ad) 2 0 0 (MQ below (zQi D cas ad r M') args s 0 0 (zA ad)) 0 [(0, .ref (ad 0)), (1, .int (zI v1))] [] M)
  refine R_iload_n X 1 dX9_isPasture_0 rfl rfl ?_
  refine R_iconst X dX9_isPasture_1 ?_
  refine R_aload_n X 0 dX9_isPasture_2 rfl rfl ?_
  refine R_getR X (j := 0) 1 1 lc_0 rfl inX9 (by decide) rfl rfl (by decide) rfl rfl wf_X9_12 dX9_isPasture_3 ?_
  refine R_getR X (j := 5) 3 4 lc_1 rfl inX7 (by decide) rfl rfl (by decide) rfl rfl wf_X9_47 dX9_isPasture_6 ?_
  refine R_getI X (j := 0) lc_4 rfl inX2 (by decide) rfl rfl rfl wf_X9_51 dX9_isPasture_9 ?_
  refine R_iconst X dX9_isPasture_12 ?_
  refine R_isub X dX9_isPasture_13 ?_
  obtain ⟨r1, M2, hc3, hf⟩ := zbnd_some hf
  refine R_callSi X (av := [.int (zI v1), .int (zI 0), .int (zI ((M 4 0) - 1))]) (rest := []) (c_X9_isWithin l D cas ad hi hc3) zy_X9_isWithin wm_X9_43 rfl rfl ⟨Nat.le_of_ble_eq_true rfl, Nat.le_of_ble_eq_true rfl⟩ ⟨Nat.le_refl _, Nat.le_refl _⟩ (Nat.le_of_ble_eq_true rfl) dX9_isPasture_14 ?_
  obtain ⟨hq4, hf⟩ := zgrd hf
  exact R_zret X hq4 hr hk0 dX9_isPasture_17 hf
theorem dX9_cell_0 : decode cX9_cell 0 = .ok (.iload_n 0, 1) := by decide +kernel
theorem dX9_cell_1 : decode cX9_cell 1 = .ok (.bipush 16, 2) := by decide +kernel
theorem dX9_cell_3 : decode cX9_cell 3 = .ok (.imul, 1) := by decide +kernel
theorem dX9_cell_4 : decode cX9_cell 4 = .ok (.iload_n 1, 1) := by decide +kernel
theorem dX9_cell_5 : decode cX9_cell 5 = .ok (.iadd, 1) := by decide +kernel
theorem dX9_cell_6 : decode cX9_cell 6 = .ok (.ireturn, 1) := by decide +kernel
set_option maxRecDepth 100000 in
set_option maxHeartbeats 4000000 in
theorem c_X9_cell (l : Launch) (D : va_G) (cas : Nat → ClassId) (ad : Nat → Nat) (hi : zInj ad) {v0 : Int} {v1 : Int}  {r : Int} {M M' : Mem} (hf : f_X9_cell v0 v1 M = some (r, M')) : zMi l D cas ad yX9_cell cX9_cell 2 (some .int) 0 0 [.int (zI v0), .int (zI v1)] M r M' := by
  refine zbody (by decide) (Nat.le_of_ble_eq_true rfl) hi ?_
  intro p e s m args below meth c X hr hk0
  have X : zX p s m args c cX9_cell "ShardTrails" 2 D cas ad (zA ad) := X
  unfold f_X9_cell at hf
  refine (?_ : WW p l e (zrm 0 0) s m args below meth c D cas ad (zA ad) 2 0 0 (MQ below (zQi D cas ad r M') args s 0 0 (zA ad)) 0 [(0, .int (zI v0)), (1, .int (zI v1))] [] M)
  refine R_iload_n X 0 dX9_cell_0 rfl rfl ?_
  refine R_bipush X dX9_cell_1 (by decide +kernel) ?_
  refine R_imul X dX9_cell_3 ?_
  refine R_iload_n X 1 dX9_cell_4 rfl rfl ?_
  refine R_iadd X dX9_cell_5 ?_
  exact R_iret X hr hk0 dX9_cell_6 hf
theorem dX4_join_0 : decode cX4_join 0 = .ok (.aload_n 0, 1) := by decide +kernel
theorem dX4_join_1 : decode cX4_join 1 = .ok (.getfield 30, 3) := by decide +kernel
theorem dX4_join_4 : decode cX4_join 4 = .ok (.istore_n 2, 1) := by decide +kernel
theorem dX4_join_5 : decode cX4_join 5 = .ok (.aload_n 0, 1) := by decide +kernel
theorem dX4_join_6 : decode cX4_join 6 = .ok (.getfield 9, 3) := by decide +kernel
theorem dX4_join_9 : decode cX4_join 9 = .ok (.iload_n 2, 1) := by decide +kernel
theorem dX4_join_10 : decode cX4_join 10 = .ok (.iload_n 1, 1) := by decide +kernel
theorem dX4_join_11 : decode cX4_join 11 = .ok (.iastore, 1) := by decide +kernel
theorem dX4_join_12 : decode cX4_join 12 = .ok (.iconst 0, 1) := by decide +kernel
theorem dX4_join_13 : decode cX4_join 13 = .ok (.istore_n 3, 1) := by decide +kernel
theorem dX4_join_14 : decode cX4_join 14 = .ok (.iload_n 3, 1) := by decide +kernel
theorem dX4_join_15 : decode cX4_join 15 = .ok (.bipush 16, 2) := by decide +kernel
theorem dX4_join_17 : decode cX4_join 17 = .ok (.if_icmp .ge 20, 3) := by decide +kernel
theorem dX4_join_20 : decode cX4_join 20 = .ok (.aload_n 0, 1) := by decide +kernel
theorem dX4_join_21 : decode cX4_join 21 = .ok (.getfield 27, 3) := by decide +kernel
theorem dX4_join_24 : decode cX4_join 24 = .ok (.iload_n 2, 1) := by decide +kernel
theorem dX4_join_25 : decode cX4_join 25 = .ok (.iload_n 3, 1) := by decide +kernel
theorem dX4_join_26 : decode cX4_join 26 = .ok (.invokestatic 38, 3) := by decide +kernel
theorem dX4_join_29 : decode cX4_join 29 = .ok (.iload_n 1, 1) := by decide +kernel
theorem dX4_join_30 : decode cX4_join 30 = .ok (.iastore, 1) := by decide +kernel
theorem dX4_join_31 : decode cX4_join 31 = .ok (.iinc 3 1, 3) := by decide +kernel
theorem dX4_join_34 : decode cX4_join 34 = .ok (.goto (-20), 3) := by decide +kernel
theorem dX4_join_37 : decode cX4_join 37 = .ok (.aload_n 0, 1) := by decide +kernel
theorem dX4_join_38 : decode cX4_join 38 = .ok (.dup, 1) := by decide +kernel
theorem dX4_join_39 : decode cX4_join 39 = .ok (.getfield 30, 3) := by decide +kernel
theorem dX4_join_42 : decode cX4_join 42 = .ok (.iconst 1, 1) := by decide +kernel
theorem dX4_join_43 : decode cX4_join 43 = .ok (.iadd, 1) := by decide +kernel
theorem dX4_join_44 : decode cX4_join 44 = .ok (.putfield 30, 3) := by decide +kernel
theorem dX4_join_47 : decode cX4_join 47 = .ok (.iload_n 2, 1) := by decide +kernel
theorem dX4_join_48 : decode cX4_join 48 = .ok (.ireturn, 1) := by decide +kernel
set_option maxRecDepth 100000 in
set_option maxHeartbeats 4000000 in
theorem c_X4_join (l : Launch) (D : va_G) (cas : Nat → ClassId) (ad : Nat → Nat) (hi : zInj ad) {k : Nat} {v1 : Int} (hk : k < zN ∧ lay k = (0, 4)) {r : Int} {M M' : Mem} (hf : f_X4_join k v1 M = some (r, M')) : zMi l D cas ad yX4_join cX4_join 4 (some .int) 1 21 [.ref (ad k), .int (zI v1)] M r M' := by
  refine zbody (by decide) (Nat.le_of_ble_eq_true rfl) hi ?_
  intro p e s m args below meth c X hr hk0
  have X : zX p s m args c cX4_join "ShardTrails$Readers" 4 D cas ad (zA ad) := X
  have hB14 : ∀ (n : Nat) (v1 v2 v3 : Int) (M : Mem), f_X4_join_b14 k n v1 v2 v3 M = some (r, M') → WW p l e (zrm 1 21) s m args below meth c D cas ad (zA ad) 4 0 0 (MQ below (zQi D cas ad r M') args s 0 0 (zA ad)) 14 [(0, .ref (ad k)), (1, .int (zI v1)), (2, .int (zI v2)), (3, .int (zI v3))] [] M := by
    intro n
    induction n with
    | zero => intro v1 v2 v3 M hf; exact absurd hf (by unfold f_X4_join_b14; simp)
    | succ n ih =>
      intro v1 v2 v3 M hf
      unfold f_X4_join_b14 at hf
      refine R_iload_n X 3 dX4_join_14 rfl rfl ?_
      refine R_bipush X dX4_join_15 (by decide +kernel) ?_
      obtain ⟨hq5, hf⟩ := zgrd hf
      refine R_icmp_ge X 37 ⟨hq5, (by decide)⟩ dX4_join_17 (by decide) (fun c13 => ?_) (fun c13 => ?_)
      · have hf := zthen hf c13
        refine R_aload_n X 0 dX4_join_37 rfl rfl ?_
        refine R_dup X dX4_join_38 rfl ?_
        refine R_getI X (j := 0) hk rfl inX4 (by decide) rfl rfl rfl wf_X4_30 dX4_join_39 ?_
        refine R_iconst X dX4_join_42 ?_
        refine R_iadd X dX4_join_43 ?_
        obtain ⟨M6, eM6, hf⟩ := zlt_some hf
        refine R_put X (j := 0) hk rfl inX4 tyX4_ok nmX4 (by decide) rfl rfl rfl wf_X4_30 rfl (by decide +kernel) (z_nI _) (z_fI _) dX4_join_44 ?_
        refine R_mem eM6 ?_
        refine R_iload_n X 2 dX4_join_47 rfl rfl ?_
        exact R_iret X hr hk0 dX4_join_48 hf
      · have hf := zelse hf c13
        refine R_aload_n X 0 dX4_join_20 rfl rfl ?_
        have hp7 : k + 6 < zN ∧ lay (k + 6) = (1, 96) := pt_4_6 _ hk.1 hk.2
        refine R_getR X (j := 6) 6 (k + 6) hk rfl inX4 (by decide) rfl rfl (by decide) rfl rfl wf_X4_27 dX4_join_21 ?_
        refine R_iload_n X 2 dX4_join_24 rfl rfl ?_
        refine R_iload_n X 3 dX4_join_25 rfl rfl ?_
        obtain ⟨r8, M9, hc10, hf⟩ := zbnd_some hf
        refine R_callNi X (av := [.int (zI v2), .int (zI v3)]) (rest := [.ref (ad (k + 6))]) (c_X9_cell l D cas ad hi hc10) zy_X9_cell wn_X4_38 rfl rfl ⟨Nat.le_of_ble_eq_true rfl, Nat.le_of_ble_eq_true rfl⟩ ⟨Nat.le_refl _, Nat.le_refl _⟩ (Nat.le_of_ble_eq_true rfl) dX4_join_26 ?_
        refine R_iload_n X 1 dX4_join_29 rfl rfl ?_
        obtain ⟨hq11, hf⟩ := zgrd hf
        obtain ⟨M12, eM12, hf⟩ := zlt_some hf
        refine R_iast X hp7 hq11 dX4_join_30 ?_
        refine R_mem eM12 ?_
        refine R_iinc X (lv' := [(3, .int (zI (v3 + 1))), (0, .ref (ad k)), (1, .int (zI v1)), (2, .int (zI v2))]) 3 dX4_join_31 rfl (by decide) rfl ?_
        refine R_goto X 14 dX4_join_34 (by decide) ?_
        exact R_sub [1, 2, 3, 0] rfl (ih v1 v2 (v3 + 1) M12 hf)
  unfold f_X4_join at hf
  refine (?_ : WW p l e (zrm 1 21) s m args below meth c D cas ad (zA ad) 4 0 0 (MQ below (zQi D cas ad r M') args s 0 0 (zA ad)) 0 [(0, .ref (ad k)), (1, .int (zI v1))] [] M)
  refine R_aload_n X 0 dX4_join_0 rfl rfl ?_
  refine R_getI X (j := 0) hk rfl inX4 (by decide) rfl rfl rfl wf_X4_30 dX4_join_1 ?_
  obtain ⟨x1, ex1, hf⟩ := zlt_some hf
  refine R_istore_nX X (lv' := [(2, .int (zI x1)), (0, .ref (ad k)), (1, .int (zI v1))]) ex1 dX4_join_4 rfl (by decide) rfl ?_
  refine R_aload_n X 1 dX4_join_5 rfl rfl ?_
  have hp2 : k + 1 < zN ∧ lay (k + 1) = (1, 6) := pt_4_1 _ hk.1 hk.2
  refine R_getR X (j := 1) 1 (k + 1) hk rfl inX4 (by decide) rfl rfl (by decide) rfl rfl wf_X4_9 dX4_join_6 ?_
  refine R_iload_n X 0 dX4_join_9 rfl rfl ?_
  refine R_iload_n X 2 dX4_join_10 rfl rfl ?_
  obtain ⟨hq3, hf⟩ := zgrd hf
  obtain ⟨M4, eM4, hf⟩ := zlt_some hf
  refine R_iast X hp2 hq3 dX4_join_11 ?_
  refine R_mem eM4 ?_
  refine R_iconst X dX4_join_12 ?_
  refine R_istore_n X (lv' := [(3, .int (zI 0)), (2, .int (zI x1)), (0, .ref (ad k)), (1, .int (zI v1))]) dX4_join_13 rfl (by decide) rfl ?_
  exact R_sub [2, 3, 1, 0] rfl (hB14 100000 v1 x1 0 M4 hf)
theorem dX9_addReader_0 : decode cX9_addReader 0 = .ok (.aload_n 0, 1) := by decide +kernel
theorem dX9_addReader_1 : decode cX9_addReader 1 = .ok (.iload_n 1, 1) := by decide +kernel
theorem dX9_addReader_2 : decode cX9_addReader 2 = .ok (.invokevirtual 65, 3) := by decide +kernel
theorem dX9_addReader_5 : decode cX9_addReader 5 = .ok (.ifCond .ne 5, 3) := by decide +kernel
theorem dX9_addReader_8 : decode cX9_addReader 8 = .ok (.iconst (-1), 1) := by decide +kernel
theorem dX9_addReader_9 : decode cX9_addReader 9 = .ok (.ireturn, 1) := by decide +kernel
theorem dX9_addReader_10 : decode cX9_addReader 10 = .ok (.aload_n 0, 1) := by decide +kernel
theorem dX9_addReader_11 : decode cX9_addReader 11 = .ok (.getfield 12, 3) := by decide +kernel
theorem dX9_addReader_14 : decode cX9_addReader 14 = .ok (.getfield 99, 3) := by decide +kernel
theorem dX9_addReader_17 : decode cX9_addReader 17 = .ok (.getfield 103, 3) := by decide +kernel
theorem dX9_addReader_20 : decode cX9_addReader 20 = .ok (.bipush 6, 2) := by decide +kernel
theorem dX9_addReader_22 : decode cX9_addReader 22 = .ok (.if_icmp .lt 6, 3) := by decide +kernel
theorem dX9_addReader_25 : decode cX9_addReader 25 = .ok (.bipush (-3), 2) := by decide +kernel
theorem dX9_addReader_27 : decode cX9_addReader 27 = .ok (.ireturn, 1) := by decide +kernel
theorem dX9_addReader_28 : decode cX9_addReader 28 = .ok (.aload_n 0, 1) := by decide +kernel
theorem dX9_addReader_29 : decode cX9_addReader 29 = .ok (.getfield 25, 3) := by decide +kernel
theorem dX9_addReader_32 : decode cX9_addReader 32 = .ok (.aload_n 0, 1) := by decide +kernel
theorem dX9_addReader_33 : decode cX9_addReader 33 = .ok (.getfield 12, 3) := by decide +kernel
theorem dX9_addReader_36 : decode cX9_addReader 36 = .ok (.invokevirtual 57, 3) := by decide +kernel
theorem dX9_addReader_39 : decode cX9_addReader 39 = .ok (.aload_n 0, 1) := by decide +kernel
theorem dX9_addReader_40 : decode cX9_addReader 40 = .ok (.getfield 12, 3) := by decide +kernel
theorem dX9_addReader_43 : decode cX9_addReader 43 = .ok (.getfield 99, 3) := by decide +kernel
theorem dX9_addReader_46 : decode cX9_addReader 46 = .ok (.iload_n 1, 1) := by decide +kernel
theorem dX9_addReader_47 : decode cX9_addReader 47 = .ok (.invokevirtual 106, 3) := by decide +kernel
theorem dX9_addReader_50 : decode cX9_addReader 50 = .ok (.ireturn, 1) := by decide +kernel
set_option maxRecDepth 100000 in
set_option maxHeartbeats 4000000 in
theorem c_X9_addReader (l : Launch) (D : va_G) (cas : Nat → ClassId) (ad : Nat → Nat) (hi : zInj ad) {v1 : Int}  {r : Int} {M M' : Mem} (hf : f_X9_addReader v1 M = some (r, M')) : zMi l D cas ad yX9_addReader cX9_addReader 2 (some .int) 5 111 [.ref (ad 0), .int (zI v1)] M r M' := by
  refine zbody (by decide) (Nat.le_of_ble_eq_true rfl) hi ?_
  intro p e s m args below meth c X hr hk0
  have X : zX p s m args c cX9_addReader "ShardTrails" 2 D cas ad (zA ad) := X
  unfold f_X9_addReader at hf
  refine (?_ : WW p l e (zrm 5 111) s m args below meth c D cas ad (zA ad) 2 0 0 (MQ below (zQi D cas ad r M') args s 0 0 (zA ad)) 0 [(0, .ref (ad 0)), (1, .int (zI v1))] [] M)
  refine R_aload_n X 0 dX9_addReader_0 rfl rfl ?_
  refine R_iload_n X 1 dX9_addReader_1 rfl rfl ?_
  obtain ⟨r1, M2, hc3, hf⟩ := zbnd_some hf
  refine R_callVi X (av := [.int (zI v1)]) (rest := []) (c_X9_isPasture l D cas ad hi hc3) zy_X9_isPasture lc_0 rfl rfl wm_X9_65 rfl rfl ⟨Nat.le_of_ble_eq_true rfl, Nat.le_of_ble_eq_true rfl⟩ ⟨Nat.le_refl _, Nat.le_refl _⟩ (Nat.le_of_ble_eq_true rfl) dX9_addReader_2 ?_
  obtain ⟨hq4, hf⟩ := zgrd hf
  refine R_if_ne X 10 hq4 dX9_addReader_5 (by decide) (fun c13 => ?_) (fun c13 => ?_)
  · have hf := zelse hf c13
    refine R_aload_n X 0 dX9_addReader_10 rfl rfl ?_
    refine R_getR X (j := 0) 1 1 lc_0 rfl inX9 (by decide) rfl rfl (by decide) rfl rfl wf_X9_12 dX9_addReader_11 ?_
    refine R_getR X (j := 9) 21 22 lc_1 rfl inX7 (by decide) rfl rfl (by decide) rfl rfl wf_X9_99 dX9_addReader_14 ?_
    refine R_getI X (j := 0) lc_22 rfl inX4 (by decide) rfl rfl rfl wf_X9_103 dX9_addReader_17 ?_
    refine R_bipush X dX9_addReader_20 (by decide +kernel) ?_
    obtain ⟨hq5, hf⟩ := zgrd hf
    refine R_icmp_lt X 28 ⟨hq5, (by decide)⟩ dX9_addReader_22 (by decide) (fun c12 => ?_) (fun c12 => ?_)
    · have hf := zthen hf c12
      refine R_aload_n X 0 dX9_addReader_28 rfl rfl ?_
      refine R_getR X (j := 3) 88 88 lc_0 rfl inX9 (by decide) rfl rfl (by decide) rfl rfl wf_X9_25 dX9_addReader_29 ?_
      refine R_aload_n X 0 dX9_addReader_32 rfl rfl ?_
      refine R_getR X (j := 0) 1 1 lc_0 rfl inX9 (by decide) rfl rfl (by decide) rfl rfl wf_X9_12 dX9_addReader_33 ?_
      obtain ⟨r6, M7, hc8, hf⟩ := zbnd_some hf
      refine R_callVv X (av := [.ref (ad 1)]) (rest := []) (c_X1_store l D cas ad hi lc_1 hc8) zy_X1_store lc_88 rfl rfl wm_X9_57 rfl rfl ⟨Nat.le_of_ble_eq_true rfl, Nat.le_of_ble_eq_true rfl⟩ ⟨Nat.le_refl _, Nat.le_refl _⟩ (Nat.le_of_ble_eq_true rfl) dX9_addReader_36 ?_
      refine R_aload_n X 0 dX9_addReader_39 rfl rfl ?_
      refine R_getR X (j := 0) 1 1 lc_0 rfl inX9 (by decide) rfl rfl (by decide) rfl rfl wf_X9_12 dX9_addReader_40 ?_
      refine R_getR X (j := 9) 21 22 lc_1 rfl inX7 (by decide) rfl rfl (by decide) rfl rfl wf_X9_99 dX9_addReader_43 ?_
      refine R_iload_n X 1 dX9_addReader_46 rfl rfl ?_
      obtain ⟨r9, M10, hc11, hf⟩ := zbnd_some hf
      refine R_callVi X (av := [.int (zI v1)]) (rest := []) (c_X4_join l D cas ad hi lc_22 hc11) zy_X4_join lc_22 rfl rfl wm_X9_106 rfl rfl ⟨Nat.le_of_ble_eq_true rfl, Nat.le_of_ble_eq_true rfl⟩ ⟨Nat.le_refl _, Nat.le_refl _⟩ (Nat.le_of_ble_eq_true rfl) dX9_addReader_47 ?_
      exact R_iret X hr hk0 dX9_addReader_50 hf
    · have hf := zelse hf c12
      refine R_bipush X dX9_addReader_25 (by decide +kernel) ?_
      exact R_iret X hr hk0 dX9_addReader_27 hf
  · have hf := zthen hf c13
    refine R_iconst X dX9_addReader_8 ?_
    exact R_iret X hr hk0 dX9_addReader_9 hf
theorem dX3_join_0 : decode cX3_join 0 = .ok (.aload_n 0, 1) := by decide +kernel
theorem dX3_join_1 : decode cX3_join 1 = .ok (.getfield 18, 3) := by decide +kernel
theorem dX3_join_4 : decode cX3_join 4 = .ok (.istore_n 3, 1) := by decide +kernel
theorem dX3_join_5 : decode cX3_join 5 = .ok (.aload_n 0, 1) := by decide +kernel
theorem dX3_join_6 : decode cX3_join 6 = .ok (.getfield 9, 3) := by decide +kernel
theorem dX3_join_9 : decode cX3_join 9 = .ok (.iload_n 3, 1) := by decide +kernel
theorem dX3_join_10 : decode cX3_join 10 = .ok (.iload_n 1, 1) := by decide +kernel
theorem dX3_join_11 : decode cX3_join 11 = .ok (.iastore, 1) := by decide +kernel
theorem dX3_join_12 : decode cX3_join 12 = .ok (.aload_n 0, 1) := by decide +kernel
theorem dX3_join_13 : decode cX3_join 13 = .ok (.getfield 15, 3) := by decide +kernel
theorem dX3_join_16 : decode cX3_join 16 = .ok (.iload_n 3, 1) := by decide +kernel
theorem dX3_join_17 : decode cX3_join 17 = .ok (.iload_n 2, 1) := by decide +kernel
theorem dX3_join_18 : decode cX3_join 18 = .ok (.iastore, 1) := by decide +kernel
theorem dX3_join_19 : decode cX3_join 19 = .ok (.aload_n 0, 1) := by decide +kernel
theorem dX3_join_20 : decode cX3_join 20 = .ok (.dup, 1) := by decide +kernel
theorem dX3_join_21 : decode cX3_join 21 = .ok (.getfield 18, 3) := by decide +kernel
theorem dX3_join_24 : decode cX3_join 24 = .ok (.iconst 1, 1) := by decide +kernel
theorem dX3_join_25 : decode cX3_join 25 = .ok (.iadd, 1) := by decide +kernel
theorem dX3_join_26 : decode cX3_join 26 = .ok (.putfield 18, 3) := by decide +kernel
theorem dX3_join_29 : decode cX3_join 29 = .ok (.iload_n 3, 1) := by decide +kernel
theorem dX3_join_30 : decode cX3_join 30 = .ok (.ireturn, 1) := by decide +kernel
set_option maxRecDepth 100000 in
set_option maxHeartbeats 4000000 in
theorem c_X3_join (l : Launch) (D : va_G) (cas : Nat → ClassId) (ad : Nat → Nat) (hi : zInj ad) {k : Nat} {v1 : Int} {v2 : Int} (hk : k < zN ∧ lay k = (0, 3)) {r : Int} {M M' : Mem} (hf : f_X3_join k v1 v2 M = some (r, M')) : zMi l D cas ad yX3_join cX3_join 4 (some .int) 0 0 [.ref (ad k), .int (zI v1), .int (zI v2)] M r M' := by
  refine zbody (by decide) (Nat.le_of_ble_eq_true rfl) hi ?_
  intro p e s m args below meth c X hr hk0
  have X : zX p s m args c cX3_join "ShardTrails$Pack" 4 D cas ad (zA ad) := X
  unfold f_X3_join at hf
  refine (?_ : WW p l e (zrm 0 0) s m args below meth c D cas ad (zA ad) 4 0 0 (MQ below (zQi D cas ad r M') args s 0 0 (zA ad)) 0 [(0, .ref (ad k)), (1, .int (zI v1)), (2, .int (zI v2))] [] M)
  refine R_aload_n X 0 dX3_join_0 rfl rfl ?_
  refine R_getI X (j := 0) hk rfl inX3 (by decide) rfl rfl rfl wf_X3_18 dX3_join_1 ?_
  obtain ⟨x1, ex1, hf⟩ := zlt_some hf
  refine R_istore_nX X (lv' := [(3, .int (zI x1)), (0, .ref (ad k)), (1, .int (zI v1)), (2, .int (zI v2))]) ex1 dX3_join_4 rfl (by decide) rfl ?_
  refine R_aload_n X 1 dX3_join_5 rfl rfl ?_
  have hp2 : k + 1 < zN ∧ lay (k + 1) = (1, 3) := pt_3_1 _ hk.1 hk.2
  refine R_getR X (j := 1) 1 (k + 1) hk rfl inX3 (by decide) rfl rfl (by decide) rfl rfl wf_X3_9 dX3_join_6 ?_
  refine R_iload_n X 0 dX3_join_9 rfl rfl ?_
  refine R_iload_n X 2 dX3_join_10 rfl rfl ?_
  obtain ⟨hq3, hf⟩ := zgrd hf
  obtain ⟨M4, eM4, hf⟩ := zlt_some hf
  refine R_iast X hp2 hq3 dX3_join_11 ?_
  refine R_mem eM4 ?_
  refine R_aload_n X 1 dX3_join_12 rfl rfl ?_
  have hp5 : k + 2 < zN ∧ lay (k + 2) = (1, 3) := pt_3_2 _ hk.1 hk.2
  refine R_getR X (j := 2) 2 (k + 2) hk rfl inX3 (by decide) rfl rfl (by decide) rfl rfl wf_X3_15 dX3_join_13 ?_
  refine R_iload_n X 0 dX3_join_16 rfl rfl ?_
  refine R_iload_n X 3 dX3_join_17 rfl rfl ?_
  obtain ⟨M6, eM6, hf⟩ := zlt_some hf
  refine R_iast X hp5 hq3 dX3_join_18 ?_
  refine R_mem eM6 ?_
  refine R_aload_n X 1 dX3_join_19 rfl rfl ?_
  refine R_dup X dX3_join_20 rfl ?_
  refine R_getI X (j := 0) hk rfl inX3 (by decide) rfl rfl rfl wf_X3_18 dX3_join_21 ?_
  refine R_iconst X dX3_join_24 ?_
  refine R_iadd X dX3_join_25 ?_
  obtain ⟨M7, eM7, hf⟩ := zlt_some hf
  refine R_put X (j := 0) hk rfl inX3 tyX3_ok nmX3 (by decide) rfl rfl rfl wf_X3_18 rfl (by decide +kernel) (z_nI _) (z_fI _) dX3_join_26 ?_
  refine R_mem eM7 ?_
  refine R_iload_n X 0 dX3_join_29 rfl rfl ?_
  exact R_iret X hr hk0 dX3_join_30 hf
theorem dX9_addWolf_0 : decode cX9_addWolf 0 = .ok (.aload_n 0, 1) := by decide +kernel
theorem dX9_addWolf_1 : decode cX9_addWolf 1 = .ok (.iload_n 1, 1) := by decide +kernel
theorem dX9_addWolf_2 : decode cX9_addWolf 2 = .ok (.invokevirtual 65, 3) := by decide +kernel
theorem dX9_addWolf_5 : decode cX9_addWolf 5 = .ok (.ifCond .ne 5, 3) := by decide +kernel
theorem dX9_addWolf_8 : decode cX9_addWolf 8 = .ok (.iconst (-1), 1) := by decide +kernel
theorem dX9_addWolf_9 : decode cX9_addWolf 9 = .ok (.ireturn, 1) := by decide +kernel
theorem dX9_addWolf_10 : decode cX9_addWolf 10 = .ok (.iload_n 2, 1) := by decide +kernel
theorem dX9_addWolf_11 : decode cX9_addWolf 11 = .ok (.iconst 1, 1) := by decide +kernel
theorem dX9_addWolf_12 : decode cX9_addWolf 12 = .ok (.bipush 7, 2) := by decide +kernel
theorem dX9_addWolf_14 : decode cX9_addWolf 14 = .ok (.invokestatic 43, 3) := by decide +kernel
theorem dX9_addWolf_17 : decode cX9_addWolf 17 = .ok (.ifCond .ne 6, 3) := by decide +kernel
theorem dX9_addWolf_20 : decode cX9_addWolf 20 = .ok (.bipush (-2), 2) := by decide +kernel
theorem dX9_addWolf_22 : decode cX9_addWolf 22 = .ok (.ireturn, 1) := by decide +kernel
theorem dX9_addWolf_23 : decode cX9_addWolf 23 = .ok (.aload_n 0, 1) := by decide +kernel
theorem dX9_addWolf_24 : decode cX9_addWolf 24 = .ok (.getfield 12, 3) := by decide +kernel
theorem dX9_addWolf_27 : decode cX9_addWolf 27 = .ok (.getfield 88, 3) := by decide +kernel
theorem dX9_addWolf_30 : decode cX9_addWolf 30 = .ok (.getfield 92, 3) := by decide +kernel
theorem dX9_addWolf_33 : decode cX9_addWolf 33 = .ok (.iconst 3, 1) := by decide +kernel
theorem dX9_addWolf_34 : decode cX9_addWolf 34 = .ok (.if_icmp .lt 6, 3) := by decide +kernel
theorem dX9_addWolf_37 : decode cX9_addWolf 37 = .ok (.bipush (-3), 2) := by decide +kernel
theorem dX9_addWolf_39 : decode cX9_addWolf 39 = .ok (.ireturn, 1) := by decide +kernel
theorem dX9_addWolf_40 : decode cX9_addWolf 40 = .ok (.aload_n 0, 1) := by decide +kernel
theorem dX9_addWolf_41 : decode cX9_addWolf 41 = .ok (.getfield 25, 3) := by decide +kernel
theorem dX9_addWolf_44 : decode cX9_addWolf 44 = .ok (.aload_n 0, 1) := by decide +kernel
theorem dX9_addWolf_45 : decode cX9_addWolf 45 = .ok (.getfield 12, 3) := by decide +kernel
theorem dX9_addWolf_48 : decode cX9_addWolf 48 = .ok (.invokevirtual 57, 3) := by decide +kernel
theorem dX9_addWolf_51 : decode cX9_addWolf 51 = .ok (.aload_n 0, 1) := by decide +kernel
theorem dX9_addWolf_52 : decode cX9_addWolf 52 = .ok (.getfield 12, 3) := by decide +kernel
theorem dX9_addWolf_55 : decode cX9_addWolf 55 = .ok (.getfield 88, 3) := by decide +kernel
theorem dX9_addWolf_58 : decode cX9_addWolf 58 = .ok (.iload_n 1, 1) := by decide +kernel
theorem dX9_addWolf_59 : decode cX9_addWolf 59 = .ok (.iload_n 2, 1) := by decide +kernel
theorem dX9_addWolf_60 : decode cX9_addWolf 60 = .ok (.invokevirtual 95, 3) := by decide +kernel
theorem dX9_addWolf_63 : decode cX9_addWolf 63 = .ok (.ireturn, 1) := by decide +kernel
set_option maxRecDepth 100000 in
set_option maxHeartbeats 4000000 in
theorem c_X9_addWolf (l : Launch) (D : va_G) (cas : Nat → ClassId) (ad : Nat → Nat) (hi : zInj ad) {v1 : Int} {v2 : Int}  {r : Int} {M M' : Mem} (hf : f_X9_addWolf v1 v2 M = some (r, M')) : zMi l D cas ad yX9_addWolf cX9_addWolf 3 (some .int) 5 111 [.ref (ad 0), .int (zI v1), .int (zI v2)] M r M' := by
  refine zbody (by decide) (Nat.le_of_ble_eq_true rfl) hi ?_
  intro p e s m args below meth c X hr hk0
  have X : zX p s m args c cX9_addWolf "ShardTrails" 3 D cas ad (zA ad) := X
  unfold f_X9_addWolf at hf
  refine (?_ : WW p l e (zrm 5 111) s m args below meth c D cas ad (zA ad) 3 0 0 (MQ below (zQi D cas ad r M') args s 0 0 (zA ad)) 0 [(0, .ref (ad 0)), (1, .int (zI v1)), (2, .int (zI v2))] [] M)
  refine R_aload_n X 0 dX9_addWolf_0 rfl rfl ?_
  refine R_iload_n X 1 dX9_addWolf_1 rfl rfl ?_
  obtain ⟨r1, M2, hc3, hf⟩ := zbnd_some hf
  refine R_callVi X (av := [.int (zI v1)]) (rest := []) (c_X9_isPasture l D cas ad hi hc3) zy_X9_isPasture lc_0 rfl rfl wm_X9_65 rfl rfl ⟨Nat.le_of_ble_eq_true rfl, Nat.le_of_ble_eq_true rfl⟩ ⟨Nat.le_refl _, Nat.le_refl _⟩ (Nat.le_of_ble_eq_true rfl) dX9_addWolf_2 ?_
  obtain ⟨hq4, hf⟩ := zgrd hf
  refine R_if_ne X 10 hq4 dX9_addWolf_5 (by decide) (fun c18 => ?_) (fun c18 => ?_)
  · have hf := zelse hf c18
    refine R_iload_n X 2 dX9_addWolf_10 rfl rfl ?_
    refine R_iconst X dX9_addWolf_11 ?_
    refine R_bipush X dX9_addWolf_12 (by decide +kernel) ?_
    obtain ⟨r5, M6, hc7, hf⟩ := zbnd_some hf
    refine R_callSi X (av := [.int (zI v2), .int (zI 1), .int (zI 7)]) (rest := []) (c_X9_isWithin l D cas ad hi hc7) zy_X9_isWithin wm_X9_43 rfl rfl ⟨Nat.le_of_ble_eq_true rfl, Nat.le_of_ble_eq_true rfl⟩ ⟨Nat.le_refl _, Nat.le_refl _⟩ (Nat.le_of_ble_eq_true rfl) dX9_addWolf_14 ?_
    obtain ⟨hq8, hf⟩ := zgrd hf
    refine R_if_ne X 23 hq8 dX9_addWolf_17 (by decide) (fun c17 => ?_) (fun c17 => ?_)
    · have hf := zelse hf c17
      refine R_aload_n X 0 dX9_addWolf_23 rfl rfl ?_
      refine R_getR X (j := 0) 1 1 lc_0 rfl inX9 (by decide) rfl rfl (by decide) rfl rfl wf_X9_12 dX9_addWolf_24 ?_
      refine R_getR X (j := 8) 18 19 lc_1 rfl inX7 (by decide) rfl rfl (by decide) rfl rfl wf_X9_88 dX9_addWolf_27 ?_
      refine R_getI X (j := 0) lc_19 rfl inX3 (by decide) rfl rfl rfl wf_X9_92 dX9_addWolf_30 ?_
      refine R_iconst X dX9_addWolf_33 ?_
      obtain ⟨hq9, hf⟩ := zgrd hf
      refine R_icmp_lt X 40 ⟨hq9, (by decide)⟩ dX9_addWolf_34 (by decide) (fun c16 => ?_) (fun c16 => ?_)
      · have hf := zthen hf c16
        refine R_aload_n X 0 dX9_addWolf_40 rfl rfl ?_
        refine R_getR X (j := 3) 88 88 lc_0 rfl inX9 (by decide) rfl rfl (by decide) rfl rfl wf_X9_25 dX9_addWolf_41 ?_
        refine R_aload_n X 0 dX9_addWolf_44 rfl rfl ?_
        refine R_getR X (j := 0) 1 1 lc_0 rfl inX9 (by decide) rfl rfl (by decide) rfl rfl wf_X9_12 dX9_addWolf_45 ?_
        obtain ⟨r10, M11, hc12, hf⟩ := zbnd_some hf
        refine R_callVv X (av := [.ref (ad 1)]) (rest := []) (c_X1_store l D cas ad hi lc_1 hc12) zy_X1_store lc_88 rfl rfl wm_X9_57 rfl rfl ⟨Nat.le_of_ble_eq_true rfl, Nat.le_of_ble_eq_true rfl⟩ ⟨Nat.le_refl _, Nat.le_refl _⟩ (Nat.le_of_ble_eq_true rfl) dX9_addWolf_48 ?_
        refine R_aload_n X 0 dX9_addWolf_51 rfl rfl ?_
        refine R_getR X (j := 0) 1 1 lc_0 rfl inX9 (by decide) rfl rfl (by decide) rfl rfl wf_X9_12 dX9_addWolf_52 ?_
        refine R_getR X (j := 8) 18 19 lc_1 rfl inX7 (by decide) rfl rfl (by decide) rfl rfl wf_X9_88 dX9_addWolf_55 ?_
        refine R_iload_n X 1 dX9_addWolf_58 rfl rfl ?_
        refine R_iload_n X 2 dX9_addWolf_59 rfl rfl ?_
        obtain ⟨r13, M14, hc15, hf⟩ := zbnd_some hf
        refine R_callVi X (av := [.int (zI v1), .int (zI v2)]) (rest := []) (c_X3_join l D cas ad hi lc_19 hc15) zy_X3_join lc_19 rfl rfl wm_X9_95 rfl rfl ⟨Nat.le_of_ble_eq_true rfl, Nat.le_of_ble_eq_true rfl⟩ ⟨Nat.le_refl _, Nat.le_refl _⟩ (Nat.le_of_ble_eq_true rfl) dX9_addWolf_60 ?_
        exact R_iret X hr hk0 dX9_addWolf_63 hf
      · have hf := zelse hf c16
        refine R_bipush X dX9_addWolf_37 (by decide +kernel) ?_
        exact R_iret X hr hk0 dX9_addWolf_39 hf
    · have hf := zthen hf c17
      refine R_bipush X dX9_addWolf_20 (by decide +kernel) ?_
      exact R_iret X hr hk0 dX9_addWolf_22 hf
  · have hf := zthen hf c18
    refine R_iconst X dX9_addWolf_8 ?_
    exact R_iret X hr hk0 dX9_addWolf_9 hf
theorem dX9_sum_0 : decode cX9_sum 0 = .ok (.iconst 0, 1) := by decide +kernel
theorem dX9_sum_1 : decode cX9_sum 1 = .ok (.istore_n 2, 1) := by decide +kernel
theorem dX9_sum_2 : decode cX9_sum 2 = .ok (.iconst 0, 1) := by decide +kernel
theorem dX9_sum_3 : decode cX9_sum 3 = .ok (.istore_n 3, 1) := by decide +kernel
theorem dX9_sum_4 : decode cX9_sum 4 = .ok (.iload_n 3, 1) := by decide +kernel
theorem dX9_sum_5 : decode cX9_sum 5 = .ok (.iload_n 1, 1) := by decide +kernel
theorem dX9_sum_6 : decode cX9_sum 6 = .ok (.if_icmp .ge 21, 3) := by decide +kernel
theorem dX9_sum_9 : decode cX9_sum 9 = .ok (.iload_n 3, 1) := by decide +kernel
theorem dX9_sum_10 : decode cX9_sum 10 = .ok (.aload_n 0, 1) := by decide +kernel
theorem dX9_sum_11 : decode cX9_sum 11 = .ok (.arraylength, 1) := by decide +kernel
theorem dX9_sum_12 : decode cX9_sum 12 = .ok (.if_icmp .ge 15, 3) := by decide +kernel
theorem dX9_sum_15 : decode cX9_sum 15 = .ok (.iload_n 2, 1) := by decide +kernel
theorem dX9_sum_16 : decode cX9_sum 16 = .ok (.aload_n 0, 1) := by decide +kernel
theorem dX9_sum_17 : decode cX9_sum 17 = .ok (.iload_n 3, 1) := by decide +kernel
theorem dX9_sum_18 : decode cX9_sum 18 = .ok (.iaload, 1) := by decide +kernel
theorem dX9_sum_19 : decode cX9_sum 19 = .ok (.iadd, 1) := by decide +kernel
theorem dX9_sum_20 : decode cX9_sum 20 = .ok (.istore_n 2, 1) := by decide +kernel
theorem dX9_sum_21 : decode cX9_sum 21 = .ok (.iinc 3 1, 3) := by decide +kernel
theorem dX9_sum_24 : decode cX9_sum 24 = .ok (.goto (-20), 3) := by decide +kernel
theorem dX9_sum_27 : decode cX9_sum 27 = .ok (.iload_n 2, 1) := by decide +kernel
theorem dX9_sum_28 : decode cX9_sum 28 = .ok (.ireturn, 1) := by decide +kernel
set_option maxRecDepth 100000 in
set_option maxHeartbeats 4000000 in
theorem c_X9_sum (l : Launch) (D : va_G) (cas : Nat → ClassId) (ad : Nat → Nat) (hi : zInj ad) {a0 : Nat} {n0 : Nat} {v1 : Int} (ha0 : a0 < zN ∧ lay a0 = (1, n0)) {r : Int} {M M' : Mem} (hf : f_X9_sum a0 n0 v1 M = some (r, M')) : zMi l D cas ad yX9_sum cX9_sum 4 (some .int) 0 0 [.ref (ad a0), .int (zI v1)] M r M' := by
  refine zbody (by decide) (Nat.le_of_ble_eq_true rfl) hi ?_
  intro p e s m args below meth c X hr hk0
  have X : zX p s m args c cX9_sum "ShardTrails" 4 D cas ad (zA ad) := X
  have hB27 : ∀ (v2 : Int) (M : Mem), f_X9_sum_b27 a0 n0 v2 M = some (r, M') → WW p l e (zrm 0 0) s m args below meth c D cas ad (zA ad) 4 0 0 (MQ below (zQi D cas ad r M') args s 0 0 (zA ad)) 27 [(2, .int (zI v2))] [] M := by
    intro v2 M hf
    unfold f_X9_sum_b27 at hf
    refine R_iload_n X 0 dX9_sum_27 rfl rfl ?_
    exact R_iret X hr hk0 dX9_sum_28 hf
  have hB4 : ∀ (n : Nat) (v1 v2 v3 : Int) (M : Mem), f_X9_sum_b4 a0 n0 n v1 v2 v3 M = some (r, M') → WW p l e (zrm 0 0) s m args below meth c D cas ad (zA ad) 4 0 0 (MQ below (zQi D cas ad r M') args s 0 0 (zA ad)) 4 [(0, .ref (ad a0)), (1, .int (zI v1)), (2, .int (zI v2)), (3, .int (zI v3))] [] M := by
    intro n
    induction n with
    | zero => intro v1 v2 v3 M hf; exact absurd hf (by unfold f_X9_sum_b4; simp)
    | succ n ih =>
      intro v1 v2 v3 M hf
      unfold f_X9_sum_b4 at hf
      refine R_iload_n X 3 dX9_sum_4 rfl rfl ?_
      refine R_iload_n X 1 dX9_sum_5 rfl rfl ?_
      obtain ⟨hq1, hf⟩ := zgrd hf
      obtain ⟨hq2, hf⟩ := zgrd hf
      refine R_icmp_ge X 27 ⟨hq1, hq2⟩ dX9_sum_6 (by decide) (fun c7 => ?_) (fun c7 => ?_)
      · have hf := zthen hf c7
        exact R_sub [2] rfl (hB27 v2 M hf)
      · have hf := zelse hf c7
        refine R_iload_n X 3 dX9_sum_9 rfl rfl ?_
        refine R_aload_n X 0 dX9_sum_10 rfl rfl ?_
        refine R_alen X ha0 dX9_sum_11 ?_
        obtain ⟨hq3, hf⟩ := zgrd hf
        refine R_icmp_ge X 27 ⟨hq1, hq3⟩ dX9_sum_12 (by decide) (fun c6 => ?_) (fun c6 => ?_)
        · have hf := zthen hf c6
          exact R_sub [2] rfl (hB27 v2 M hf)
        · have hf := zelse hf c6
          refine R_iload_n X 2 dX9_sum_15 rfl rfl ?_
          refine R_aload_n X 0 dX9_sum_16 rfl rfl ?_
          refine R_iload_n X 3 dX9_sum_17 rfl rfl ?_
          obtain ⟨hq4, hf⟩ := zgrd hf
          refine R_iald X ha0 hq4 dX9_sum_18 ?_
          refine R_iadd X dX9_sum_19 ?_
          obtain ⟨x5, ex5, hf⟩ := zlt_some hf
          refine R_istore_nX X (lv' := [(2, .int (zI x5)), (0, .ref (ad a0)), (1, .int (zI v1)), (3, .int (zI v3))]) ex5 dX9_sum_20 rfl (by decide) rfl ?_
          refine R_iinc X (lv' := [(3, .int (zI (v3 + 1))), (2, .int (zI x5)), (0, .ref (ad a0)), (1, .int (zI v1))]) 3 dX9_sum_21 rfl (by decide) rfl ?_
          refine R_goto X 4 dX9_sum_24 (by decide) ?_
          exact R_sub [2, 3, 1, 0] rfl (ih v1 x5 (v3 + 1) M hf)
  unfold f_X9_sum at hf
  refine (?_ : WW p l e (zrm 0 0) s m args below meth c D cas ad (zA ad) 4 0 0 (MQ below (zQi D cas ad r M') args s 0 0 (zA ad)) 0 [(0, .ref (ad a0)), (1, .int (zI v1))] [] M)
  refine R_iconst X dX9_sum_0 ?_
  refine R_istore_n X (lv' := [(2, .int (zI 0)), (0, .ref (ad a0)), (1, .int (zI v1))]) dX9_sum_1 rfl (by decide) rfl ?_
  refine R_iconst X dX9_sum_2 ?_
  refine R_istore_n X (lv' := [(3, .int (zI 0)), (2, .int (zI 0)), (0, .ref (ad a0)), (1, .int (zI v1))]) dX9_sum_3 rfl (by decide) rfl ?_
  exact R_sub [2, 3, 1, 0] rfl (hB4 100000 v1 0 0 M hf)
theorem dX2_inns_0 : decode cX2_inns 0 = .ok (.iconst 0, 1) := by decide +kernel
theorem dX2_inns_1 : decode cX2_inns 1 = .ok (.istore_n 1, 1) := by decide +kernel
theorem dX2_inns_2 : decode cX2_inns 2 = .ok (.iconst 0, 1) := by decide +kernel
theorem dX2_inns_3 : decode cX2_inns 3 = .ok (.istore_n 2, 1) := by decide +kernel
theorem dX2_inns_4 : decode cX2_inns 4 = .ok (.iload_n 2, 1) := by decide +kernel
theorem dX2_inns_5 : decode cX2_inns 5 = .ok (.aload_n 0, 1) := by decide +kernel
theorem dX2_inns_6 : decode cX2_inns 6 = .ok (.getfield 37, 3) := by decide +kernel
theorem dX2_inns_9 : decode cX2_inns 9 = .ok (.if_icmp .ge 21, 3) := by decide +kernel
theorem dX2_inns_12 : decode cX2_inns 12 = .ok (.aload_n 0, 1) := by decide +kernel
theorem dX2_inns_13 : decode cX2_inns 13 = .ok (.getfield 24, 3) := by decide +kernel
theorem dX2_inns_16 : decode cX2_inns 16 = .ok (.iload_n 2, 1) := by decide +kernel
theorem dX2_inns_17 : decode cX2_inns 17 = .ok (.baload, 1) := by decide +kernel
theorem dX2_inns_18 : decode cX2_inns 18 = .ok (.ifCond .eq 6, 3) := by decide +kernel
theorem dX2_inns_21 : decode cX2_inns 21 = .ok (.iinc 1 1, 3) := by decide +kernel
theorem dX2_inns_24 : decode cX2_inns 24 = .ok (.iinc 2 1, 3) := by decide +kernel
theorem dX2_inns_27 : decode cX2_inns 27 = .ok (.goto (-23), 3) := by decide +kernel
theorem dX2_inns_30 : decode cX2_inns 30 = .ok (.iload_n 1, 1) := by decide +kernel
theorem dX2_inns_31 : decode cX2_inns 31 = .ok (.ireturn, 1) := by decide +kernel
set_option maxRecDepth 100000 in
set_option maxHeartbeats 4000000 in
theorem c_X2_inns (l : Launch) (D : va_G) (cas : Nat → ClassId) (ad : Nat → Nat) (hi : zInj ad) {k : Nat}  (hk : k < zN ∧ lay k = (0, 2)) {r : Int} {M M' : Mem} (hf : f_X2_inns k M = some (r, M')) : zMi l D cas ad yX2_inns cX2_inns 3 (some .int) 0 0 [.ref (ad k)] M r M' := by
  refine zbody (by decide) (Nat.le_of_ble_eq_true rfl) hi ?_
  intro p e s m args below meth c X hr hk0
  have X : zX p s m args c cX2_inns "ShardTrails$Land" 3 D cas ad (zA ad) := X
  have hB24 : ∀ (g4 : Int → Int → Mem → Option (Int × Mem)) (hg4 : ∀ (v1 v2 : Int) (M : Mem), g4 v1 v2 M = some (r, M') → WW p l e (zrm 0 0) s m args below meth c D cas ad (zA ad) 3 0 0 (MQ below (zQi D cas ad r M') args s 0 0 (zA ad)) 4 [(0, .ref (ad k)), (1, .int (zI v1)), (2, .int (zI v2))] [] M) (v1 v2 : Int) (M : Mem), f_X2_inns_b24 g4 k v1 v2 M = some (r, M') → WW p l e (zrm 0 0) s m args below meth c D cas ad (zA ad) 3 0 0 (MQ below (zQi D cas ad r M') args s 0 0 (zA ad)) 24 [(0, .ref (ad k)), (1, .int (zI v1)), (2, .int (zI v2))] [] M := by
    intro g4 hg4 v1 v2 M hf
    unfold f_X2_inns_b24 at hf
    refine R_iinc X (lv' := [(2, .int (zI (v2 + 1))), (0, .ref (ad k)), (1, .int (zI v1))]) 2 dX2_inns_24 rfl (by decide) rfl ?_
    refine R_goto X 4 dX2_inns_27 (by decide) ?_
    exact R_sub [1, 2, 0] rfl (hg4 v1 (v2 + 1) M hf)
  have hB4 : ∀ (n : Nat) (v1 v2 : Int) (M : Mem), f_X2_inns_b4 k n v1 v2 M = some (r, M') → WW p l e (zrm 0 0) s m args below meth c D cas ad (zA ad) 3 0 0 (MQ below (zQi D cas ad r M') args s 0 0 (zA ad)) 4 [(0, .ref (ad k)), (1, .int (zI v1)), (2, .int (zI v2))] [] M := by
    intro n
    induction n with
    | zero => intro v1 v2 M hf; exact absurd hf (by unfold f_X2_inns_b4; simp)
    | succ n ih =>
      intro v1 v2 M hf
      unfold f_X2_inns_b4 at hf
      refine R_iload_n X 2 dX2_inns_4 rfl rfl ?_
      refine R_aload_n X 0 dX2_inns_5 rfl rfl ?_
      refine R_getI X (j := 0) hk rfl inX2 (by decide) rfl rfl rfl wf_X2_37 dX2_inns_6 ?_
      obtain ⟨hq1, hf⟩ := zgrd hf
      obtain ⟨hq2, hf⟩ := zgrd hf
      refine R_icmp_ge X 30 ⟨hq1, hq2⟩ dX2_inns_9 (by decide) (fun c7 => ?_) (fun c7 => ?_)
      · have hf := zthen hf c7
        refine R_iload_n X 1 dX2_inns_30 rfl rfl ?_
        exact R_iret X hr hk0 dX2_inns_31 hf
      · have hf := zelse hf c7
        refine R_aload_n X 0 dX2_inns_12 rfl rfl ?_
        have hp3 : k + 5 < zN ∧ lay (k + 5) = (2, 8) := pt_2_5 _ hk.1 hk.2
        refine R_getR X (j := 5) 5 (k + 5) hk rfl inX2 (by decide) rfl rfl (by decide) rfl rfl wf_X2_24 dX2_inns_13 ?_
        refine R_iload_n X 2 dX2_inns_16 rfl rfl ?_
        obtain ⟨hq4, hf⟩ := zgrd hf
        refine R_zald X hp3 hq4 dX2_inns_17 ?_
        obtain ⟨hq5, hf⟩ := zgrd hf
        refine R_if_eq X 24 hq5 dX2_inns_18 (by decide) (fun c6 => ?_) (fun c6 => ?_)
        · have hf := zthen hf c6
          exact R_sub [0, 1, 2] rfl (hB24 (f_X2_inns_b4 k n) ih v1 v2 M hf)
        · have hf := zelse hf c6
          refine R_iinc X (lv' := [(1, .int (zI (v1 + 1))), (0, .ref (ad k)), (2, .int (zI v2))]) 1 dX2_inns_21 rfl (by decide) rfl ?_
          exact R_sub [1, 0, 2] rfl (hB24 (f_X2_inns_b4 k n) ih (v1 + 1) v2 M hf)
  unfold f_X2_inns at hf
  refine (?_ : WW p l e (zrm 0 0) s m args below meth c D cas ad (zA ad) 3 0 0 (MQ below (zQi D cas ad r M') args s 0 0 (zA ad)) 0 [(0, .ref (ad k))] [] M)
  refine R_iconst X dX2_inns_0 ?_
  refine R_istore_n X (lv' := [(1, .int (zI 0)), (0, .ref (ad k))]) dX2_inns_1 rfl (by decide) rfl ?_
  refine R_iconst X dX2_inns_2 ?_
  refine R_istore_n X (lv' := [(2, .int (zI 0)), (1, .int (zI 0)), (0, .ref (ad k))]) dX2_inns_3 rfl (by decide) rfl ?_
  exact R_sub [2, 1, 0] rfl (hB4 100000 0 0 M hf)
theorem dX7_season_0 : decode cX7_season 0 = .ok (.aload_n 0, 1) := by decide +kernel
theorem dX7_season_1 : decode cX7_season 1 = .ok (.getfield 18, 3) := by decide +kernel
theorem dX7_season_4 : decode cX7_season 4 = .ok (.iconst 0, 1) := by decide +kernel
theorem dX7_season_5 : decode cX7_season 5 = .ok (.iaload, 1) := by decide +kernel
theorem dX7_season_6 : decode cX7_season 6 = .ok (.istore_n 1, 1) := by decide +kernel
theorem dX7_season_7 : decode cX7_season 7 = .ok (.iload_n 1, 1) := by decide +kernel
theorem dX7_season_8 : decode cX7_season 8 = .ok (.ifCond .le 14, 3) := by decide +kernel
theorem dX7_season_11 : decode cX7_season 11 = .ok (.aload_n 0, 1) := by decide +kernel
theorem dX7_season_12 : decode cX7_season 12 = .ok (.getfield 67, 3) := by decide +kernel
theorem dX7_season_15 : decode cX7_season 15 = .ok (.iload_n 1, 1) := by decide +kernel
theorem dX7_season_16 : decode cX7_season 16 = .ok (.idiv, 1) := by decide +kernel
theorem dX7_season_17 : decode cX7_season 17 = .ok (.iconst 4, 1) := by decide +kernel
theorem dX7_season_18 : decode cX7_season 18 = .ok (.irem, 1) := by decide +kernel
theorem dX7_season_19 : decode cX7_season 19 = .ok (.goto 4, 3) := by decide +kernel
theorem dX7_season_22 : decode cX7_season 22 = .ok (.iconst 0, 1) := by decide +kernel
theorem dX7_season_23 : decode cX7_season 23 = .ok (.ireturn, 1) := by decide +kernel
set_option maxRecDepth 100000 in
set_option maxHeartbeats 4000000 in
theorem c_X7_season (l : Launch) (D : va_G) (cas : Nat → ClassId) (ad : Nat → Nat) (hi : zInj ad) {k : Nat}  (hk : k < zN ∧ lay k = (0, 7)) {r : Int} {M M' : Mem} (hf : f_X7_season k M = some (r, M')) : zMi l D cas ad yX7_season cX7_season 2 (some .int) 0 0 [.ref (ad k)] M r M' := by
  refine zbody (by decide) (Nat.le_of_ble_eq_true rfl) hi ?_
  intro p e s m args below meth c X hr hk0
  have X : zX p s m args c cX7_season "ShardTrails$State" 2 D cas ad (zA ad) := X
  have hB23 : ∀ (t1 : Int) (M : Mem), f_X7_season_b23 k t1 M = some (r, M') → WW p l e (zrm 0 0) s m args below meth c D cas ad (zA ad) 2 0 0 (MQ below (zQi D cas ad r M') args s 0 0 (zA ad)) 23 [] [.int (zI t1)] M := by
    intro t1 M hf
    unfold f_X7_season_b23 at hf
    exact R_iret X hr hk0 dX7_season_23 hf
  unfold f_X7_season at hf
  refine (?_ : WW p l e (zrm 0 0) s m args below meth c D cas ad (zA ad) 2 0 0 (MQ below (zQi D cas ad r M') args s 0 0 (zA ad)) 0 [(0, .ref (ad k))] [] M)
  refine R_aload_n X 0 dX7_season_0 rfl rfl ?_
  have hp1 : k + 1 < zN ∧ lay (k + 1) = (1, 6) := pt_7_3 _ hk.1 hk.2
  refine R_getR X (j := 3) 1 (k + 1) hk rfl inX7 (by decide) rfl rfl (by decide) rfl rfl wf_X7_18 dX7_season_1 ?_
  refine R_iconst X dX7_season_4 ?_
  refine R_iald X hp1 (by decide) dX7_season_5 ?_
  obtain ⟨x2, ex2, hf⟩ := zlt_some hf
  refine R_istore_nX X (lv' := [(1, .int (zI x2)), (0, .ref (ad k))]) ex2 dX7_season_6 rfl (by decide) rfl ?_
  refine R_iload_n X 0 dX7_season_7 rfl rfl ?_
  obtain ⟨hq3, hf⟩ := zgrd hf
  refine R_if_le X 22 hq3 dX7_season_8 (by decide) (fun c7 => ?_) (fun c7 => ?_)
  · have hf := zthen hf c7
    refine R_iconst X dX7_season_22 ?_
    exact R_sub [] rfl (hB23 0 M hf)
  · have hf := zelse hf c7
    refine R_aload_n X 1 dX7_season_11 rfl rfl ?_
    refine R_getI X (j := 0) hk rfl inX7 (by decide) rfl rfl rfl wf_X7_67 dX7_season_12 ?_
    refine R_iload_n X 0 dX7_season_15 rfl rfl ?_
    obtain ⟨hq4, hf⟩ := zgrd hf
    obtain ⟨hq5, hf⟩ := zgrd hf
    refine R_idiv X ⟨⟨hq4, hq3⟩, hq5⟩ dX7_season_16 ?_
    refine R_iconst X dX7_season_17 ?_
    obtain ⟨hq6, hf⟩ := zgrd hf
    refine R_irem X ⟨⟨hq6, (by decide)⟩, (by decide)⟩ dX7_season_18 ?_
    refine R_goto X 23 dX7_season_19 (by decide) ?_
    exact R_sub [] rfl (hB23 (((M k 0).tdiv x2).tmod 4) M hf)
theorem dX7_seasonLatitude_0 : decode cX7_seasonLatitude 0 = .ok (.aload_n 0, 1) := by decide +kernel
theorem dX7_seasonLatitude_1 : decode cX7_seasonLatitude 1 = .ok (.getfield 26, 3) := by decide +kernel
theorem dX7_seasonLatitude_4 : decode cX7_seasonLatitude 4 = .ok (.aload_n 0, 1) := by decide +kernel
theorem dX7_seasonLatitude_5 : decode cX7_seasonLatitude 5 = .ok (.invokevirtual 97, 3) := by decide +kernel
theorem dX7_seasonLatitude_8 : decode cX7_seasonLatitude 8 = .ok (.iaload, 1) := by decide +kernel
theorem dX7_seasonLatitude_9 : decode cX7_seasonLatitude 9 = .ok (.ireturn, 1) := by decide +kernel
set_option maxRecDepth 100000 in
set_option maxHeartbeats 4000000 in
theorem c_X7_seasonLatitude (l : Launch) (D : va_G) (cas : Nat → ClassId) (ad : Nat → Nat) (hi : zInj ad) {k : Nat}  (hk : k < zN ∧ lay k = (0, 7)) {r : Int} {M M' : Mem} (hf : f_X7_seasonLatitude k M = some (r, M')) : zMi l D cas ad yX7_seasonLatitude cX7_seasonLatitude 1 (some .int) 1 21 [.ref (ad k)] M r M' := by
  refine zbody (by decide) (Nat.le_of_ble_eq_true rfl) hi ?_
  intro p e s m args below meth c X hr hk0
  have X : zX p s m args c cX7_seasonLatitude "ShardTrails$State" 1 D cas ad (zA ad) := X
  unfold f_X7_seasonLatitude at hf
  refine (?_ : WW p l e (zrm 1 21) s m args below meth c D cas ad (zA ad) 1 0 0 (MQ below (zQi D cas ad r M') args s 0 0 (zA ad)) 0 [(0, .ref (ad k))] [] M)
  refine R_aload_n X 0 dX7_seasonLatitude_0 rfl rfl ?_
  have hp1 : k + 2 < zN ∧ lay (k + 2) = (1, 4) := pt_7_4 _ hk.1 hk.2
  refine R_getR X (j := 4) 2 (k + 2) hk rfl inX7 (by decide) rfl rfl (by decide) rfl rfl wf_X7_26 dX7_seasonLatitude_1 ?_
  refine R_aload_n X 0 dX7_seasonLatitude_4 rfl rfl ?_
  obtain ⟨r2, M3, hc4, hf⟩ := zbnd_some hf
  refine R_callVi X (av := []) (rest := [.ref (ad (k + 2))]) (c_X7_season l D cas ad hi hk hc4) zy_X7_season hk rfl rfl wm_X7_97 rfl rfl ⟨Nat.le_of_ble_eq_true rfl, Nat.le_of_ble_eq_true rfl⟩ ⟨Nat.le_refl _, Nat.le_refl _⟩ (Nat.le_of_ble_eq_true rfl) dX7_seasonLatitude_5 ?_
  obtain ⟨hq5, hf⟩ := zgrd hf
  refine R_iald X hp1 hq5 dX7_seasonLatitude_8 ?_
  exact R_iret X hr hk0 dX7_seasonLatitude_9 hf
theorem dX8_isAt_0 : decode cX8_isAt 0 = .ok (.aload_n 0, 1) := by decide +kernel
theorem dX8_isAt_1 : decode cX8_isAt 1 = .ok (.getfield 9, 3) := by decide +kernel
theorem dX8_isAt_4 : decode cX8_isAt 4 = .ok (.iload_n 1, 1) := by decide +kernel
theorem dX8_isAt_5 : decode cX8_isAt 5 = .ok (.iload_n 2, 1) := by decide +kernel
theorem dX8_isAt_6 : decode cX8_isAt 6 = .ok (.invokestatic 28, 3) := by decide +kernel
theorem dX8_isAt_9 : decode cX8_isAt 9 = .ok (.iaload, 1) := by decide +kernel
theorem dX8_isAt_10 : decode cX8_isAt 10 = .ok (.bipush (-5), 2) := by decide +kernel
theorem dX8_isAt_12 : decode cX8_isAt 12 = .ok (.if_icmp .eq 7, 3) := by decide +kernel
theorem dX8_isAt_15 : decode cX8_isAt 15 = .ok (.iconst 1, 1) := by decide +kernel
theorem dX8_isAt_16 : decode cX8_isAt 16 = .ok (.goto 4, 3) := by decide +kernel
theorem dX8_isAt_19 : decode cX8_isAt 19 = .ok (.iconst 0, 1) := by decide +kernel
theorem dX8_isAt_20 : decode cX8_isAt 20 = .ok (.ireturn, 1) := by decide +kernel
set_option maxRecDepth 100000 in
set_option maxHeartbeats 4000000 in
theorem c_X8_isAt (l : Launch) (D : va_G) (cas : Nat → ClassId) (ad : Nat → Nat) (hi : zInj ad) {k : Nat} {v1 : Int} {v2 : Int} (hk : k < zN ∧ lay k = (0, 8)) {r : Int} {M M' : Mem} (hf : f_X8_isAt k v1 v2 M = some (r, M')) : zMi l D cas ad yX8_isAt cX8_isAt 3 (some .boolean) 1 21 [.ref (ad k), .int (zI v1), .int (zI v2)] M r M' := by
  refine zbody (by decide) (Nat.le_of_ble_eq_true rfl) hi ?_
  intro p e s m args below meth c X hr hk0
  have X : zX p s m args c cX8_isAt "ShardTrails$Tracks" 3 D cas ad (zA ad) := X
  have hB20 : ∀ (t1 : Int) (M : Mem), f_X8_isAt_b20 k t1 M = some (r, M') → WW p l e (zrm 1 21) s m args below meth c D cas ad (zA ad) 3 0 0 (MQ below (zQi D cas ad r M') args s 0 0 (zA ad)) 20 [] [.int (zI t1)] M := by
    intro t1 M hf
    unfold f_X8_isAt_b20 at hf
    obtain ⟨hq8, hf⟩ := zgrd hf
    exact R_zret X hq8 hr hk0 dX8_isAt_20 hf
  unfold f_X8_isAt at hf
  refine (?_ : WW p l e (zrm 1 21) s m args below meth c D cas ad (zA ad) 3 0 0 (MQ below (zQi D cas ad r M') args s 0 0 (zA ad)) 0 [(0, .ref (ad k)), (1, .int (zI v1)), (2, .int (zI v2))] [] M)
  refine R_aload_n X 0 dX8_isAt_0 rfl rfl ?_
  have hp1 : k + 1 < zN ∧ lay (k + 1) = (1, 128) := pt_8_0 _ hk.1 hk.2
  refine R_getR X (j := 0) 1 (k + 1) hk rfl inX8 (by decide) rfl rfl (by decide) rfl rfl wf_X8_9 dX8_isAt_1 ?_
  refine R_iload_n X 1 dX8_isAt_4 rfl rfl ?_
  refine R_iload_n X 2 dX8_isAt_5 rfl rfl ?_
  obtain ⟨r2, M3, hc4, hf⟩ := zbnd_some hf
  refine R_callNi X (av := [.int (zI v1), .int (zI v2)]) (rest := [.ref (ad (k + 1))]) (c_X9_cell l D cas ad hi hc4) zy_X9_cell wn_X8_28 rfl rfl ⟨Nat.le_of_ble_eq_true rfl, Nat.le_of_ble_eq_true rfl⟩ ⟨Nat.le_refl _, Nat.le_refl _⟩ (Nat.le_of_ble_eq_true rfl) dX8_isAt_6 ?_
  obtain ⟨hq5, hf⟩ := zgrd hf
  refine R_iald X hp1 hq5 dX8_isAt_9 ?_
  refine R_bipush X dX8_isAt_10 (by decide +kernel) ?_
  obtain ⟨hq6, hf⟩ := zgrd hf
  refine R_icmp_eq X 19 ⟨hq6, (by decide)⟩ dX8_isAt_12 (by decide) (fun c7 => ?_) (fun c7 => ?_)
  · have hf := zthen hf c7
    refine R_iconst X dX8_isAt_19 ?_
    exact R_sub [] rfl (hB20 0 M3 hf)
  · have hf := zelse hf c7
    refine R_iconst X dX8_isAt_15 ?_
    refine R_goto X 20 dX8_isAt_16 (by decide) ?_
    exact R_sub [] rfl (hB20 1 M3 hf)
theorem dX8_countIn_0 : decode cX8_countIn 0 = .ok (.iconst 0, 1) := by decide +kernel
theorem dX8_countIn_1 : decode cX8_countIn 1 = .ok (.istore_n 2, 1) := by decide +kernel
theorem dX8_countIn_2 : decode cX8_countIn 2 = .ok (.iconst 0, 1) := by decide +kernel
theorem dX8_countIn_3 : decode cX8_countIn 3 = .ok (.istore_n 3, 1) := by decide +kernel
theorem dX8_countIn_4 : decode cX8_countIn 4 = .ok (.iload_n 3, 1) := by decide +kernel
theorem dX8_countIn_5 : decode cX8_countIn 5 = .ok (.bipush 16, 2) := by decide +kernel
theorem dX8_countIn_7 : decode cX8_countIn 7 = .ok (.if_icmp .ge 21, 3) := by decide +kernel
theorem dX8_countIn_10 : decode cX8_countIn 10 = .ok (.aload_n 0, 1) := by decide +kernel
theorem dX8_countIn_11 : decode cX8_countIn 11 = .ok (.iload_n 1, 1) := by decide +kernel
theorem dX8_countIn_12 : decode cX8_countIn 12 = .ok (.iload_n 3, 1) := by decide +kernel
theorem dX8_countIn_13 : decode cX8_countIn 13 = .ok (.invokevirtual 32, 3) := by decide +kernel
theorem dX8_countIn_16 : decode cX8_countIn 16 = .ok (.ifCond .eq 6, 3) := by decide +kernel
theorem dX8_countIn_19 : decode cX8_countIn 19 = .ok (.iinc 2 1, 3) := by decide +kernel
theorem dX8_countIn_22 : decode cX8_countIn 22 = .ok (.iinc 3 1, 3) := by decide +kernel
theorem dX8_countIn_25 : decode cX8_countIn 25 = .ok (.goto (-21), 3) := by decide +kernel
theorem dX8_countIn_28 : decode cX8_countIn 28 = .ok (.iload_n 2, 1) := by decide +kernel
theorem dX8_countIn_29 : decode cX8_countIn 29 = .ok (.ireturn, 1) := by decide +kernel
set_option maxRecDepth 100000 in
set_option maxHeartbeats 4000000 in
theorem c_X8_countIn (l : Launch) (D : va_G) (cas : Nat → ClassId) (ad : Nat → Nat) (hi : zInj ad) {k : Nat} {v1 : Int} (hk : k < zN ∧ lay k = (0, 8)) {r : Int} {M M' : Mem} (hf : f_X8_countIn k v1 M = some (r, M')) : zMi l D cas ad yX8_countIn cX8_countIn 4 (some .int) 2 43 [.ref (ad k), .int (zI v1)] M r M' := by
  refine zbody (by decide) (Nat.le_of_ble_eq_true rfl) hi ?_
  intro p e s m args below meth c X hr hk0
  have X : zX p s m args c cX8_countIn "ShardTrails$Tracks" 4 D cas ad (zA ad) := X
  have hB22 : ∀ (g4 : Int → Int → Int → Mem → Option (Int × Mem)) (hg4 : ∀ (v1 v2 v3 : Int) (M : Mem), g4 v1 v2 v3 M = some (r, M') → WW p l e (zrm 2 43) s m args below meth c D cas ad (zA ad) 4 0 0 (MQ below (zQi D cas ad r M') args s 0 0 (zA ad)) 4 [(0, .ref (ad k)), (1, .int (zI v1)), (2, .int (zI v2)), (3, .int (zI v3))] [] M) (v1 v2 v3 : Int) (M : Mem), f_X8_countIn_b22 g4 k v1 v2 v3 M = some (r, M') → WW p l e (zrm 2 43) s m args below meth c D cas ad (zA ad) 4 0 0 (MQ below (zQi D cas ad r M') args s 0 0 (zA ad)) 22 [(0, .ref (ad k)), (1, .int (zI v1)), (2, .int (zI v2)), (3, .int (zI v3))] [] M := by
    intro g4 hg4 v1 v2 v3 M hf
    unfold f_X8_countIn_b22 at hf
    refine R_iinc X (lv' := [(3, .int (zI (v3 + 1))), (0, .ref (ad k)), (1, .int (zI v1)), (2, .int (zI v2))]) 3 dX8_countIn_22 rfl (by decide) rfl ?_
    refine R_goto X 4 dX8_countIn_25 (by decide) ?_
    exact R_sub [1, 2, 3, 0] rfl (hg4 v1 v2 (v3 + 1) M hf)
  have hB4 : ∀ (n : Nat) (v1 v2 v3 : Int) (M : Mem), f_X8_countIn_b4 k n v1 v2 v3 M = some (r, M') → WW p l e (zrm 2 43) s m args below meth c D cas ad (zA ad) 4 0 0 (MQ below (zQi D cas ad r M') args s 0 0 (zA ad)) 4 [(0, .ref (ad k)), (1, .int (zI v1)), (2, .int (zI v2)), (3, .int (zI v3))] [] M := by
    intro n
    induction n with
    | zero => intro v1 v2 v3 M hf; exact absurd hf (by unfold f_X8_countIn_b4; simp)
    | succ n ih =>
      intro v1 v2 v3 M hf
      unfold f_X8_countIn_b4 at hf
      refine R_iload_n X 3 dX8_countIn_4 rfl rfl ?_
      refine R_bipush X dX8_countIn_5 (by decide +kernel) ?_
      obtain ⟨hq1, hf⟩ := zgrd hf
      refine R_icmp_ge X 28 ⟨hq1, (by decide)⟩ dX8_countIn_7 (by decide) (fun c7 => ?_) (fun c7 => ?_)
      · have hf := zthen hf c7
        refine R_iload_n X 2 dX8_countIn_28 rfl rfl ?_
        exact R_iret X hr hk0 dX8_countIn_29 hf
      · have hf := zelse hf c7
        refine R_aload_n X 0 dX8_countIn_10 rfl rfl ?_
        refine R_iload_n X 1 dX8_countIn_11 rfl rfl ?_
        refine R_iload_n X 3 dX8_countIn_12 rfl rfl ?_
        obtain ⟨r2, M3, hc4, hf⟩ := zbnd_some hf
        refine R_callVi X (av := [.int (zI v1), .int (zI v3)]) (rest := []) (c_X8_isAt l D cas ad hi hk hc4) zy_X8_isAt hk rfl rfl wm_X8_32 rfl rfl ⟨Nat.le_of_ble_eq_true rfl, Nat.le_of_ble_eq_true rfl⟩ ⟨Nat.le_refl _, Nat.le_refl _⟩ (Nat.le_of_ble_eq_true rfl) dX8_countIn_13 ?_
        obtain ⟨hq5, hf⟩ := zgrd hf
        refine R_if_eq X 22 hq5 dX8_countIn_16 (by decide) (fun c6 => ?_) (fun c6 => ?_)
        · have hf := zthen hf c6
          exact R_sub [0, 1, 2, 3] rfl (hB22 (f_X8_countIn_b4 k n) ih v1 v2 v3 M3 hf)
        · have hf := zelse hf c6
          refine R_iinc X (lv' := [(2, .int (zI (v2 + 1))), (0, .ref (ad k)), (1, .int (zI v1)), (3, .int (zI v3))]) 2 dX8_countIn_19 rfl (by decide) rfl ?_
          exact R_sub [1, 2, 0, 3] rfl (hB22 (f_X8_countIn_b4 k n) ih v1 (v2 + 1) v3 M3 hf)
  unfold f_X8_countIn at hf
  refine (?_ : WW p l e (zrm 2 43) s m args below meth c D cas ad (zA ad) 4 0 0 (MQ below (zQi D cas ad r M') args s 0 0 (zA ad)) 0 [(0, .ref (ad k)), (1, .int (zI v1))] [] M)
  refine R_iconst X dX8_countIn_0 ?_
  refine R_istore_n X (lv' := [(2, .int (zI 0)), (0, .ref (ad k)), (1, .int (zI v1))]) dX8_countIn_1 rfl (by decide) rfl ?_
  refine R_iconst X dX8_countIn_2 ?_
  refine R_istore_n X (lv' := [(3, .int (zI 0)), (2, .int (zI 0)), (0, .ref (ad k)), (1, .int (zI v1))]) dX8_countIn_3 rfl (by decide) rfl ?_
  exact R_sub [2, 3, 1, 0] rfl (hB4 100000 v1 0 0 M hf)
theorem dX8_countAll_0 : decode cX8_countAll 0 = .ok (.iconst 0, 1) := by decide +kernel
theorem dX8_countAll_1 : decode cX8_countAll 1 = .ok (.istore_n 1, 1) := by decide +kernel
theorem dX8_countAll_2 : decode cX8_countAll 2 = .ok (.iconst 0, 1) := by decide +kernel
theorem dX8_countAll_3 : decode cX8_countAll 3 = .ok (.istore_n 2, 1) := by decide +kernel
theorem dX8_countAll_4 : decode cX8_countAll 4 = .ok (.iload_n 2, 1) := by decide +kernel
theorem dX8_countAll_5 : decode cX8_countAll 5 = .ok (.bipush 8, 2) := by decide +kernel
theorem dX8_countAll_7 : decode cX8_countAll 7 = .ok (.if_icmp .ge 17, 3) := by decide +kernel
theorem dX8_countAll_10 : decode cX8_countAll 10 = .ok (.iload_n 1, 1) := by decide +kernel
theorem dX8_countAll_11 : decode cX8_countAll 11 = .ok (.aload_n 0, 1) := by decide +kernel
theorem dX8_countAll_12 : decode cX8_countAll 12 = .ok (.iload_n 2, 1) := by decide +kernel
theorem dX8_countAll_13 : decode cX8_countAll 13 = .ok (.invokevirtual 36, 3) := by decide +kernel
theorem dX8_countAll_16 : decode cX8_countAll 16 = .ok (.iadd, 1) := by decide +kernel
theorem dX8_countAll_17 : decode cX8_countAll 17 = .ok (.istore_n 1, 1) := by decide +kernel
theorem dX8_countAll_18 : decode cX8_countAll 18 = .ok (.iinc 2 1, 3) := by decide +kernel
theorem dX8_countAll_21 : decode cX8_countAll 21 = .ok (.goto (-17), 3) := by decide +kernel
theorem dX8_countAll_24 : decode cX8_countAll 24 = .ok (.iload_n 1, 1) := by decide +kernel
theorem dX8_countAll_25 : decode cX8_countAll 25 = .ok (.ireturn, 1) := by decide +kernel
set_option maxRecDepth 100000 in
set_option maxHeartbeats 4000000 in
theorem c_X8_countAll (l : Launch) (D : va_G) (cas : Nat → ClassId) (ad : Nat → Nat) (hi : zInj ad) {k : Nat}  (hk : k < zN ∧ lay k = (0, 8)) {r : Int} {M M' : Mem} (hf : f_X8_countAll k M = some (r, M')) : zMi l D cas ad yX8_countAll cX8_countAll 3 (some .int) 3 66 [.ref (ad k)] M r M' := by
  refine zbody (by decide) (Nat.le_of_ble_eq_true rfl) hi ?_
  intro p e s m args below meth c X hr hk0
  have X : zX p s m args c cX8_countAll "ShardTrails$Tracks" 3 D cas ad (zA ad) := X
  have hB4 : ∀ (n : Nat) (v1 v2 : Int) (M : Mem), f_X8_countAll_b4 k n v1 v2 M = some (r, M') → WW p l e (zrm 3 66) s m args below meth c D cas ad (zA ad) 3 0 0 (MQ below (zQi D cas ad r M') args s 0 0 (zA ad)) 4 [(0, .ref (ad k)), (1, .int (zI v1)), (2, .int (zI v2))] [] M := by
    intro n
    induction n with
    | zero => intro v1 v2 M hf; exact absurd hf (by unfold f_X8_countAll_b4; simp)
    | succ n ih =>
      intro v1 v2 M hf
      unfold f_X8_countAll_b4 at hf
      refine R_iload_n X 2 dX8_countAll_4 rfl rfl ?_
      refine R_bipush X dX8_countAll_5 (by decide +kernel) ?_
      obtain ⟨hq1, hf⟩ := zgrd hf
      refine R_icmp_ge X 24 ⟨hq1, (by decide)⟩ dX8_countAll_7 (by decide) (fun c6 => ?_) (fun c6 => ?_)
      · have hf := zthen hf c6
        refine R_iload_n X 1 dX8_countAll_24 rfl rfl ?_
        exact R_iret X hr hk0 dX8_countAll_25 hf
      · have hf := zelse hf c6
        refine R_iload_n X 1 dX8_countAll_10 rfl rfl ?_
        refine R_aload_n X 0 dX8_countAll_11 rfl rfl ?_
        refine R_iload_n X 2 dX8_countAll_12 rfl rfl ?_
        obtain ⟨r2, M3, hc4, hf⟩ := zbnd_some hf
        refine R_callVi X (av := [.int (zI v2)]) (rest := [.int (zI v1)]) (c_X8_countIn l D cas ad hi hk hc4) zy_X8_countIn hk rfl rfl wm_X8_36 rfl rfl ⟨Nat.le_of_ble_eq_true rfl, Nat.le_of_ble_eq_true rfl⟩ ⟨Nat.le_refl _, Nat.le_refl _⟩ (Nat.le_of_ble_eq_true rfl) dX8_countAll_13 ?_
        refine R_iadd X dX8_countAll_16 ?_
        obtain ⟨x5, ex5, hf⟩ := zlt_some hf
        refine R_istore_nX X (lv' := [(1, .int (zI x5)), (0, .ref (ad k)), (2, .int (zI v2))]) ex5 dX8_countAll_17 rfl (by decide) rfl ?_
        refine R_iinc X (lv' := [(2, .int (zI (v2 + 1))), (1, .int (zI x5)), (0, .ref (ad k))]) 2 dX8_countAll_18 rfl (by decide) rfl ?_
        refine R_goto X 4 dX8_countAll_21 (by decide) ?_
        exact R_sub [2, 1, 0] rfl (ih x5 (v2 + 1) M3 hf)
  unfold f_X8_countAll at hf
  refine (?_ : WW p l e (zrm 3 66) s m args below meth c D cas ad (zA ad) 3 0 0 (MQ below (zQi D cas ad r M') args s 0 0 (zA ad)) 0 [(0, .ref (ad k))] [] M)
  refine R_iconst X dX8_countAll_0 ?_
  refine R_istore_n X (lv' := [(1, .int (zI 0)), (0, .ref (ad k))]) dX8_countAll_1 rfl (by decide) rfl ?_
  refine R_iconst X dX8_countAll_2 ?_
  refine R_istore_n X (lv' := [(2, .int (zI 0)), (1, .int (zI 0)), (0, .ref (ad k))]) dX8_countAll_3 rfl (by decide) rfl ?_
  exact R_sub [2, 1, 0] rfl (hB4 100000 0 0 M hf)
theorem dX9_count_0 : decode cX9_count 0 = .ok (.iload_n 1, 1) := by decide +kernel
theorem dX9_count_1 : decode cX9_count 1 = .ok (.tableswitch 250 0 14 #[75, 83, 91, 99, 110, 121, 132, 143, 154, 170, 178, 186, 210, 234, 242], 75) := by decide +kernel
theorem dX9_count_76 : decode cX9_count 76 = .ok (.aload_n 0, 1) := by decide +kernel
theorem dX9_count_77 : decode cX9_count 77 = .ok (.getfield 12, 3) := by decide +kernel
theorem dX9_count_80 : decode cX9_count 80 = .ok (.getfield 121, 3) := by decide +kernel
theorem dX9_count_83 : decode cX9_count 83 = .ok (.ireturn, 1) := by decide +kernel
theorem dX9_count_84 : decode cX9_count 84 = .ok (.aload_n 0, 1) := by decide +kernel
theorem dX9_count_85 : decode cX9_count 85 = .ok (.getfield 12, 3) := by decide +kernel
theorem dX9_count_88 : decode cX9_count 88 = .ok (.invokevirtual 298, 3) := by decide +kernel
theorem dX9_count_91 : decode cX9_count 91 = .ok (.ireturn, 1) := by decide +kernel
theorem dX9_count_92 : decode cX9_count 92 = .ok (.aload_n 0, 1) := by decide +kernel
theorem dX9_count_93 : decode cX9_count 93 = .ok (.getfield 12, 3) := by decide +kernel
theorem dX9_count_96 : decode cX9_count 96 = .ok (.invokevirtual 207, 3) := by decide +kernel
theorem dX9_count_99 : decode cX9_count 99 = .ok (.ireturn, 1) := by decide +kernel
theorem dX9_count_100 : decode cX9_count 100 = .ok (.aload_n 0, 1) := by decide +kernel
theorem dX9_count_101 : decode cX9_count 101 = .ok (.getfield 12, 3) := by decide +kernel
theorem dX9_count_104 : decode cX9_count 104 = .ok (.getfield 47, 3) := by decide +kernel
theorem dX9_count_107 : decode cX9_count 107 = .ok (.getfield 51, 3) := by decide +kernel
theorem dX9_count_110 : decode cX9_count 110 = .ok (.ireturn, 1) := by decide +kernel
theorem dX9_count_111 : decode cX9_count 111 = .ok (.aload_n 0, 1) := by decide +kernel
theorem dX9_count_112 : decode cX9_count 112 = .ok (.getfield 12, 3) := by decide +kernel
theorem dX9_count_115 : decode cX9_count 115 = .ok (.getfield 47, 3) := by decide +kernel
theorem dX9_count_118 : decode cX9_count 118 = .ok (.invokevirtual 84, 3) := by decide +kernel
theorem dX9_count_121 : decode cX9_count 121 = .ok (.ireturn, 1) := by decide +kernel
theorem dX9_count_122 : decode cX9_count 122 = .ok (.aload_n 0, 1) := by decide +kernel
theorem dX9_count_123 : decode cX9_count 123 = .ok (.getfield 12, 3) := by decide +kernel
theorem dX9_count_126 : decode cX9_count 126 = .ok (.getfield 88, 3) := by decide +kernel
theorem dX9_count_129 : decode cX9_count 129 = .ok (.getfield 92, 3) := by decide +kernel
theorem dX9_count_132 : decode cX9_count 132 = .ok (.ireturn, 1) := by decide +kernel
theorem dX9_count_133 : decode cX9_count 133 = .ok (.aload_n 0, 1) := by decide +kernel
theorem dX9_count_134 : decode cX9_count 134 = .ok (.getfield 12, 3) := by decide +kernel
theorem dX9_count_137 : decode cX9_count 137 = .ok (.getfield 99, 3) := by decide +kernel
theorem dX9_count_140 : decode cX9_count 140 = .ok (.getfield 103, 3) := by decide +kernel
theorem dX9_count_143 : decode cX9_count 143 = .ok (.ireturn, 1) := by decide +kernel
theorem dX9_count_144 : decode cX9_count 144 = .ok (.aload_n 0, 1) := by decide +kernel
theorem dX9_count_145 : decode cX9_count 145 = .ok (.getfield 12, 3) := by decide +kernel
theorem dX9_count_148 : decode cX9_count 148 = .ok (.getfield 198, 3) := by decide +kernel
theorem dX9_count_151 : decode cX9_count 151 = .ok (.invokevirtual 301, 3) := by decide +kernel
theorem dX9_count_154 : decode cX9_count 154 = .ok (.ireturn, 1) := by decide +kernel
theorem dX9_count_155 : decode cX9_count 155 = .ok (.aload_n 0, 1) := by decide +kernel
theorem dX9_count_156 : decode cX9_count 156 = .ok (.getfield 12, 3) := by decide +kernel
theorem dX9_count_159 : decode cX9_count 159 = .ok (.getfield 130, 3) := by decide +kernel
theorem dX9_count_162 : decode cX9_count 162 = .ok (.getfield 239, 3) := by decide +kernel
theorem dX9_count_165 : decode cX9_count 165 = .ok (.bipush 16, 2) := by decide +kernel
theorem dX9_count_167 : decode cX9_count 167 = .ok (.invokestatic 304, 3) := by decide +kernel
theorem dX9_count_170 : decode cX9_count 170 = .ok (.ireturn, 1) := by decide +kernel
theorem dX9_count_171 : decode cX9_count 171 = .ok (.aload_n 0, 1) := by decide +kernel
theorem dX9_count_172 : decode cX9_count 172 = .ok (.getfield 12, 3) := by decide +kernel
theorem dX9_count_175 : decode cX9_count 175 = .ok (.getfield 308, 3) := by decide +kernel
theorem dX9_count_178 : decode cX9_count 178 = .ok (.ireturn, 1) := by decide +kernel
theorem dX9_count_179 : decode cX9_count 179 = .ok (.aload_n 0, 1) := by decide +kernel
theorem dX9_count_180 : decode cX9_count 180 = .ok (.getfield 12, 3) := by decide +kernel
theorem dX9_count_183 : decode cX9_count 183 = .ok (.getfield 311, 3) := by decide +kernel
theorem dX9_count_186 : decode cX9_count 186 = .ok (.ireturn, 1) := by decide +kernel
theorem dX9_count_187 : decode cX9_count 187 = .ok (.aload_n 0, 1) := by decide +kernel
theorem dX9_count_188 : decode cX9_count 188 = .ok (.getfield 12, 3) := by decide +kernel
theorem dX9_count_191 : decode cX9_count 191 = .ok (.getfield 99, 3) := by decide +kernel
theorem dX9_count_194 : decode cX9_count 194 = .ok (.getfield 258, 3) := by decide +kernel
theorem dX9_count_197 : decode cX9_count 197 = .ok (.aload_n 0, 1) := by decide +kernel
theorem dX9_count_198 : decode cX9_count 198 = .ok (.getfield 12, 3) := by decide +kernel
theorem dX9_count_201 : decode cX9_count 201 = .ok (.getfield 99, 3) := by decide +kernel
theorem dX9_count_204 : decode cX9_count 204 = .ok (.getfield 103, 3) := by decide +kernel
theorem dX9_count_207 : decode cX9_count 207 = .ok (.invokestatic 304, 3) := by decide +kernel
theorem dX9_count_210 : decode cX9_count 210 = .ok (.ireturn, 1) := by decide +kernel
theorem dX9_count_211 : decode cX9_count 211 = .ok (.aload_n 0, 1) := by decide +kernel
theorem dX9_count_212 : decode cX9_count 212 = .ok (.getfield 12, 3) := by decide +kernel
theorem dX9_count_215 : decode cX9_count 215 = .ok (.getfield 99, 3) := by decide +kernel
theorem dX9_count_218 : decode cX9_count 218 = .ok (.getfield 264, 3) := by decide +kernel
theorem dX9_count_221 : decode cX9_count 221 = .ok (.aload_n 0, 1) := by decide +kernel
theorem dX9_count_222 : decode cX9_count 222 = .ok (.getfield 12, 3) := by decide +kernel
theorem dX9_count_225 : decode cX9_count 225 = .ok (.getfield 99, 3) := by decide +kernel
theorem dX9_count_228 : decode cX9_count 228 = .ok (.getfield 103, 3) := by decide +kernel
theorem dX9_count_231 : decode cX9_count 231 = .ok (.invokestatic 304, 3) := by decide +kernel
theorem dX9_count_234 : decode cX9_count 234 = .ok (.ireturn, 1) := by decide +kernel
theorem dX9_count_235 : decode cX9_count 235 = .ok (.aload_n 0, 1) := by decide +kernel
theorem dX9_count_236 : decode cX9_count 236 = .ok (.getfield 25, 3) := by decide +kernel
theorem dX9_count_239 : decode cX9_count 239 = .ok (.getfield 184, 3) := by decide +kernel
theorem dX9_count_242 : decode cX9_count 242 = .ok (.ireturn, 1) := by decide +kernel
theorem dX9_count_243 : decode cX9_count 243 = .ok (.aload_n 0, 1) := by decide +kernel
theorem dX9_count_244 : decode cX9_count 244 = .ok (.getfield 39, 3) := by decide +kernel
theorem dX9_count_247 : decode cX9_count 247 = .ok (.getfield 165, 3) := by decide +kernel
theorem dX9_count_250 : decode cX9_count 250 = .ok (.ireturn, 1) := by decide +kernel
theorem dX9_count_251 : decode cX9_count 251 = .ok (.bipush (-2), 2) := by decide +kernel
theorem dX9_count_253 : decode cX9_count 253 = .ok (.ireturn, 1) := by decide +kernel
set_option maxRecDepth 100000 in
set_option maxHeartbeats 4000000 in
theorem c_X9_count (l : Launch) (D : va_G) (cas : Nat → ClassId) (ad : Nat → Nat) (hi : zInj ad) {v1 : Int}  {r : Int} {M M' : Mem} (hf : f_X9_count v1 M = some (r, M')) : zMi l D cas ad yX9_count cX9_count 2 (some .int) 4 88 [.ref (ad 0), .int (zI v1)] M r M' := by
  refine zbody (by decide) (Nat.le_of_ble_eq_true rfl) hi ?_
  intro p e s m args below meth c X hr hk0
  have X : zX p s m args c cX9_count "ShardTrails" 2 D cas ad (zA ad) := X
  unfold f_X9_count at hf
  refine (?_ : WW p l e (zrm 4 88) s m args below meth c D cas ad (zA ad) 2 0 0 (MQ below (zQi D cas ad r M') args s 0 0 (zA ad)) 0 [(0, .ref (ad 0)), (1, .int (zI v1))] [] M)
  refine R_iload_n X 1 dX9_count_0 rfl rfl ?_
  obtain ⟨hq1, hf⟩ := zgrd hf
  by_cases c2 : v1 = 0
  · have hf := zthen hf c2
    refine R_tableIn X (o := 75) 76 c2 dX9_count_1 (by decide) (by decide) (by decide) (by decide +kernel) (by decide) ?_
    refine R_aload_n X 0 dX9_count_76 rfl rfl ?_
    refine R_getR X (j := 0) 1 1 lc_0 rfl inX9 (by decide) rfl rfl (by decide) rfl rfl wf_X9_12 dX9_count_77 ?_
    refine R_getI X (j := 0) lc_1 rfl inX7 (by decide) rfl rfl rfl wf_X9_121 dX9_count_80 ?_
    exact R_iret X hr hk0 dX9_count_83 hf
  have hf := zelse hf c2
  by_cases c6 : v1 = 1
  · have hf := zthen hf c6
    refine R_tableIn X (o := 83) 84 c6 dX9_count_1 (by decide) (by decide) (by decide) (by decide +kernel) (by decide) ?_
    refine R_aload_n X 0 dX9_count_84 rfl rfl ?_
    refine R_getR X (j := 0) 1 1 lc_0 rfl inX9 (by decide) rfl rfl (by decide) rfl rfl wf_X9_12 dX9_count_85 ?_
    obtain ⟨r3, M4, hc5, hf⟩ := zbnd_some hf
    refine R_callVi X (av := []) (rest := []) (c_X7_season l D cas ad hi lc_1 hc5) zy_X7_season lc_1 rfl rfl wm_X9_298 rfl rfl ⟨Nat.le_of_ble_eq_true rfl, Nat.le_of_ble_eq_true rfl⟩ ⟨Nat.le_refl _, Nat.le_refl _⟩ (Nat.le_of_ble_eq_true rfl) dX9_count_88 ?_
    exact R_iret X hr hk0 dX9_count_91 hf
  have hf := zelse hf c6
  by_cases c10 : v1 = 2
  · have hf := zthen hf c10
    refine R_tableIn X (o := 91) 92 c10 dX9_count_1 (by decide) (by decide) (by decide) (by decide +kernel) (by decide) ?_
    refine R_aload_n X 0 dX9_count_92 rfl rfl ?_
    refine R_getR X (j := 0) 1 1 lc_0 rfl inX9 (by decide) rfl rfl (by decide) rfl rfl wf_X9_12 dX9_count_93 ?_
    obtain ⟨r7, M8, hc9, hf⟩ := zbnd_some hf
    refine R_callVi X (av := []) (rest := []) (c_X7_seasonLatitude l D cas ad hi lc_1 hc9) zy_X7_seasonLatitude lc_1 rfl rfl wm_X9_207 rfl rfl ⟨Nat.le_of_ble_eq_true rfl, Nat.le_of_ble_eq_true rfl⟩ ⟨Nat.le_refl _, Nat.le_refl _⟩ (Nat.le_of_ble_eq_true rfl) dX9_count_96 ?_
    exact R_iret X hr hk0 dX9_count_99 hf
  have hf := zelse hf c10
  by_cases c11 : v1 = 3
  · have hf := zthen hf c11
    refine R_tableIn X (o := 99) 100 c11 dX9_count_1 (by decide) (by decide) (by decide) (by decide +kernel) (by decide) ?_
    refine R_aload_n X 0 dX9_count_100 rfl rfl ?_
    refine R_getR X (j := 0) 1 1 lc_0 rfl inX9 (by decide) rfl rfl (by decide) rfl rfl wf_X9_12 dX9_count_101 ?_
    refine R_getR X (j := 5) 3 4 lc_1 rfl inX7 (by decide) rfl rfl (by decide) rfl rfl wf_X9_47 dX9_count_104 ?_
    refine R_getI X (j := 0) lc_4 rfl inX2 (by decide) rfl rfl rfl wf_X9_51 dX9_count_107 ?_
    exact R_iret X hr hk0 dX9_count_110 hf
  have hf := zelse hf c11
  by_cases c15 : v1 = 4
  · have hf := zthen hf c15
    refine R_tableIn X (o := 110) 111 c15 dX9_count_1 (by decide) (by decide) (by decide) (by decide +kernel) (by decide) ?_
    refine R_aload_n X 0 dX9_count_111 rfl rfl ?_
    refine R_getR X (j := 0) 1 1 lc_0 rfl inX9 (by decide) rfl rfl (by decide) rfl rfl wf_X9_12 dX9_count_112 ?_
    refine R_getR X (j := 5) 3 4 lc_1 rfl inX7 (by decide) rfl rfl (by decide) rfl rfl wf_X9_47 dX9_count_115 ?_
    obtain ⟨r12, M13, hc14, hf⟩ := zbnd_some hf
    refine R_callVi X (av := []) (rest := []) (c_X2_inns l D cas ad hi lc_4 hc14) zy_X2_inns lc_4 rfl rfl wm_X9_84 rfl rfl ⟨Nat.le_of_ble_eq_true rfl, Nat.le_of_ble_eq_true rfl⟩ ⟨Nat.le_refl _, Nat.le_refl _⟩ (Nat.le_of_ble_eq_true rfl) dX9_count_118 ?_
    exact R_iret X hr hk0 dX9_count_121 hf
  have hf := zelse hf c15
  by_cases c16 : v1 = 5
  · have hf := zthen hf c16
    refine R_tableIn X (o := 121) 122 c16 dX9_count_1 (by decide) (by decide) (by decide) (by decide +kernel) (by decide) ?_
    refine R_aload_n X 0 dX9_count_122 rfl rfl ?_
    refine R_getR X (j := 0) 1 1 lc_0 rfl inX9 (by decide) rfl rfl (by decide) rfl rfl wf_X9_12 dX9_count_123 ?_
    refine R_getR X (j := 8) 18 19 lc_1 rfl inX7 (by decide) rfl rfl (by decide) rfl rfl wf_X9_88 dX9_count_126 ?_
    refine R_getI X (j := 0) lc_19 rfl inX3 (by decide) rfl rfl rfl wf_X9_92 dX9_count_129 ?_
    exact R_iret X hr hk0 dX9_count_132 hf
  have hf := zelse hf c16
  by_cases c17 : v1 = 6
  · have hf := zthen hf c17
    refine R_tableIn X (o := 132) 133 c17 dX9_count_1 (by decide) (by decide) (by decide) (by decide +kernel) (by decide) ?_
    refine R_aload_n X 0 dX9_count_133 rfl rfl ?_
    refine R_getR X (j := 0) 1 1 lc_0 rfl inX9 (by decide) rfl rfl (by decide) rfl rfl wf_X9_12 dX9_count_134 ?_
    refine R_getR X (j := 9) 21 22 lc_1 rfl inX7 (by decide) rfl rfl (by decide) rfl rfl wf_X9_99 dX9_count_137 ?_
    refine R_getI X (j := 0) lc_22 rfl inX4 (by decide) rfl rfl rfl wf_X9_103 dX9_count_140 ?_
    exact R_iret X hr hk0 dX9_count_143 hf
  have hf := zelse hf c17
  by_cases c21 : v1 = 7
  · have hf := zthen hf c21
    refine R_tableIn X (o := 143) 144 c21 dX9_count_1 (by decide) (by decide) (by decide) (by decide +kernel) (by decide) ?_
    refine R_aload_n X 0 dX9_count_144 rfl rfl ?_
    refine R_getR X (j := 0) 1 1 lc_0 rfl inX9 (by decide) rfl rfl (by decide) rfl rfl wf_X9_12 dX9_count_145 ?_
    refine R_getR X (j := 6) 10 11 lc_1 rfl inX7 (by decide) rfl rfl (by decide) rfl rfl wf_X9_198 dX9_count_148 ?_
    obtain ⟨r18, M19, hc20, hf⟩ := zbnd_some hf
    refine R_callVi X (av := []) (rest := []) (c_X8_countAll l D cas ad hi lc_11 hc20) zy_X8_countAll lc_11 rfl rfl wm_X9_301 rfl rfl ⟨Nat.le_of_ble_eq_true rfl, Nat.le_of_ble_eq_true rfl⟩ ⟨Nat.le_refl _, Nat.le_refl _⟩ (Nat.le_of_ble_eq_true rfl) dX9_count_151 ?_
    exact R_iret X hr hk0 dX9_count_154 hf
  have hf := zelse hf c21
  by_cases c25 : v1 = 8
  · have hf := zthen hf c25
    refine R_tableIn X (o := 154) 155 c25 dX9_count_1 (by decide) (by decide) (by decide) (by decide +kernel) (by decide) ?_
    refine R_aload_n X 0 dX9_count_155 rfl rfl ?_
    refine R_getR X (j := 0) 1 1 lc_0 rfl inX9 (by decide) rfl rfl (by decide) rfl rfl wf_X9_12 dX9_count_156 ?_
    refine R_getR X (j := 7) 13 14 lc_1 rfl inX7 (by decide) rfl rfl (by decide) rfl rfl wf_X9_130 dX9_count_159 ?_
    refine R_getR X (j := 2) 3 17 lc_14 rfl inX0 (by decide) rfl rfl (by decide) rfl rfl wf_X9_239 dX9_count_162 ?_
    refine R_bipush X dX9_count_165 (by decide +kernel) ?_
    obtain ⟨r22, M23, hc24, hf⟩ := zbnd_some hf
    refine R_callSi X (av := [.ref (ad 17), .int (zI 16)]) (rest := []) (c_X9_sum l D cas ad hi lc_17 hc24) zy_X9_sum wm_X9_304 rfl rfl ⟨Nat.le_of_ble_eq_true rfl, Nat.le_of_ble_eq_true rfl⟩ ⟨Nat.le_refl _, Nat.le_refl _⟩ (Nat.le_of_ble_eq_true rfl) dX9_count_167 ?_
    exact R_iret X hr hk0 dX9_count_170 hf
  have hf := zelse hf c25
  by_cases c26 : v1 = 9
  · have hf := zthen hf c26
    refine R_tableIn X (o := 170) 171 c26 dX9_count_1 (by decide) (by decide) (by decide) (by decide +kernel) (by decide) ?_
    refine R_aload_n X 0 dX9_count_171 rfl rfl ?_
    refine R_getR X (j := 0) 1 1 lc_0 rfl inX9 (by decide) rfl rfl (by decide) rfl rfl wf_X9_12 dX9_count_172 ?_
    refine R_getI X (j := 1) lc_1 rfl inX7 (by decide) rfl rfl rfl wf_X9_308 dX9_count_175 ?_
    exact R_iret X hr hk0 dX9_count_178 hf
  have hf := zelse hf c26
  by_cases c27 : v1 = 10
  · have hf := zthen hf c27
    refine R_tableIn X (o := 178) 179 c27 dX9_count_1 (by decide) (by decide) (by decide) (by decide +kernel) (by decide) ?_
    refine R_aload_n X 0 dX9_count_179 rfl rfl ?_
    refine R_getR X (j := 0) 1 1 lc_0 rfl inX9 (by decide) rfl rfl (by decide) rfl rfl wf_X9_12 dX9_count_180 ?_
    refine R_getI X (j := 2) lc_1 rfl inX7 (by decide) rfl rfl rfl wf_X9_311 dX9_count_183 ?_
    exact R_iret X hr hk0 dX9_count_186 hf
  have hf := zelse hf c27
  by_cases c31 : v1 = 11
  · have hf := zthen hf c31
    refine R_tableIn X (o := 186) 187 c31 dX9_count_1 (by decide) (by decide) (by decide) (by decide +kernel) (by decide) ?_
    refine R_aload_n X 0 dX9_count_187 rfl rfl ?_
    refine R_getR X (j := 0) 1 1 lc_0 rfl inX9 (by decide) rfl rfl (by decide) rfl rfl wf_X9_12 dX9_count_188 ?_
    refine R_getR X (j := 9) 21 22 lc_1 rfl inX7 (by decide) rfl rfl (by decide) rfl rfl wf_X9_99 dX9_count_191 ?_
    refine R_getR X (j := 2) 2 24 lc_22 rfl inX4 (by decide) rfl rfl (by decide) rfl rfl wf_X9_258 dX9_count_194 ?_
    refine R_aload_n X 0 dX9_count_197 rfl rfl ?_
    refine R_getR X (j := 0) 1 1 lc_0 rfl inX9 (by decide) rfl rfl (by decide) rfl rfl wf_X9_12 dX9_count_198 ?_
    refine R_getR X (j := 9) 21 22 lc_1 rfl inX7 (by decide) rfl rfl (by decide) rfl rfl wf_X9_99 dX9_count_201 ?_
    refine R_getI X (j := 0) lc_22 rfl inX4 (by decide) rfl rfl rfl wf_X9_103 dX9_count_204 ?_
    obtain ⟨r28, M29, hc30, hf⟩ := zbnd_some hf
    refine R_callSi X (av := [.ref (ad 24), .int (zI (M 22 0))]) (rest := []) (c_X9_sum l D cas ad hi lc_24 hc30) zy_X9_sum wm_X9_304 rfl rfl ⟨Nat.le_of_ble_eq_true rfl, Nat.le_of_ble_eq_true rfl⟩ ⟨Nat.le_refl _, Nat.le_refl _⟩ (Nat.le_of_ble_eq_true rfl) dX9_count_207 ?_
    exact R_iret X hr hk0 dX9_count_210 hf
  have hf := zelse hf c31
  by_cases c35 : v1 = 12
  · have hf := zthen hf c35
    refine R_tableIn X (o := 210) 211 c35 dX9_count_1 (by decide) (by decide) (by decide) (by decide +kernel) (by decide) ?_
    refine R_aload_n X 0 dX9_count_211 rfl rfl ?_
    refine R_getR X (j := 0) 1 1 lc_0 rfl inX9 (by decide) rfl rfl (by decide) rfl rfl wf_X9_12 dX9_count_212 ?_
    refine R_getR X (j := 9) 21 22 lc_1 rfl inX7 (by decide) rfl rfl (by decide) rfl rfl wf_X9_99 dX9_count_215 ?_
    refine R_getR X (j := 4) 4 26 lc_22 rfl inX4 (by decide) rfl rfl (by decide) rfl rfl wf_X9_264 dX9_count_218 ?_
    refine R_aload_n X 0 dX9_count_221 rfl rfl ?_
    refine R_getR X (j := 0) 1 1 lc_0 rfl inX9 (by decide) rfl rfl (by decide) rfl rfl wf_X9_12 dX9_count_222 ?_
    refine R_getR X (j := 9) 21 22 lc_1 rfl inX7 (by decide) rfl rfl (by decide) rfl rfl wf_X9_99 dX9_count_225 ?_
    refine R_getI X (j := 0) lc_22 rfl inX4 (by decide) rfl rfl rfl wf_X9_103 dX9_count_228 ?_
    obtain ⟨r32, M33, hc34, hf⟩ := zbnd_some hf
    refine R_callSi X (av := [.ref (ad 26), .int (zI (M 22 0))]) (rest := []) (c_X9_sum l D cas ad hi lc_26 hc34) zy_X9_sum wm_X9_304 rfl rfl ⟨Nat.le_of_ble_eq_true rfl, Nat.le_of_ble_eq_true rfl⟩ ⟨Nat.le_refl _, Nat.le_refl _⟩ (Nat.le_of_ble_eq_true rfl) dX9_count_231 ?_
    exact R_iret X hr hk0 dX9_count_234 hf
  have hf := zelse hf c35
  by_cases c36 : v1 = 13
  · have hf := zthen hf c36
    refine R_tableIn X (o := 234) 235 c36 dX9_count_1 (by decide) (by decide) (by decide) (by decide +kernel) (by decide) ?_
    refine R_aload_n X 0 dX9_count_235 rfl rfl ?_
    refine R_getR X (j := 3) 88 88 lc_0 rfl inX9 (by decide) rfl rfl (by decide) rfl rfl wf_X9_25 dX9_count_236 ?_
    refine R_getI X (j := 0) lc_88 rfl inX1 (by decide) rfl rfl rfl wf_X9_184 dX9_count_239 ?_
    exact R_iret X hr hk0 dX9_count_242 hf
  have hf := zelse hf c36
  by_cases c37 : v1 = 14
  · have hf := zthen hf c37
    refine R_tableIn X (o := 242) 243 c37 dX9_count_1 (by decide) (by decide) (by decide) (by decide +kernel) (by decide) ?_
    refine R_aload_n X 0 dX9_count_243 rfl rfl ?_
    refine R_getR X (j := 5) 210 210 lc_0 rfl inX9 (by decide) rfl rfl (by decide) rfl rfl wf_X9_39 dX9_count_244 ?_
    refine R_getI X (j := 0) lc_210 rfl inX5 (by decide) rfl rfl rfl wf_X9_165 dX9_count_247 ?_
    exact R_iret X hr hk0 dX9_count_250 hf
  have hf := zelse hf c37
  refine R_tableOut X 251 hq1 dX9_count_1 (by omega) (by decide) ?_
  refine R_bipush X dX9_count_251 (by decide +kernel) ?_
  exact R_iret X hr hk0 dX9_count_253 hf
theorem dX8_removeLeftUntil_0 : decode cX8_removeLeftUntil 0 = .ok (.iconst 0, 1) := by decide +kernel
theorem dX8_removeLeftUntil_1 : decode cX8_removeLeftUntil 1 = .ok (.istore_n 3, 1) := by decide +kernel
theorem dX8_removeLeftUntil_2 : decode cX8_removeLeftUntil 2 = .ok (.iconst 0, 1) := by decide +kernel
theorem dX8_removeLeftUntil_3 : decode cX8_removeLeftUntil 3 = .ok (.istore 4, 2) := by decide +kernel
theorem dX8_removeLeftUntil_5 : decode cX8_removeLeftUntil 5 = .ok (.iload 4, 2) := by decide +kernel
theorem dX8_removeLeftUntil_7 : decode cX8_removeLeftUntil 7 = .ok (.bipush 16, 2) := by decide +kernel
theorem dX8_removeLeftUntil_9 : decode cX8_removeLeftUntil 9 = .ok (.if_icmp .ge 50, 3) := by decide +kernel
theorem dX8_removeLeftUntil_12 : decode cX8_removeLeftUntil 12 = .ok (.aload_n 0, 1) := by decide +kernel
theorem dX8_removeLeftUntil_13 : decode cX8_removeLeftUntil 13 = .ok (.iload_n 2, 1) := by decide +kernel
theorem dX8_removeLeftUntil_14 : decode cX8_removeLeftUntil 14 = .ok (.iload 4, 2) := by decide +kernel
theorem dX8_removeLeftUntil_16 : decode cX8_removeLeftUntil 16 = .ok (.invokevirtual 32, 3) := by decide +kernel
theorem dX8_removeLeftUntil_19 : decode cX8_removeLeftUntil 19 = .ok (.ifCond .eq 34, 3) := by decide +kernel
theorem dX8_removeLeftUntil_22 : decode cX8_removeLeftUntil 22 = .ok (.aload_n 0, 1) := by decide +kernel
theorem dX8_removeLeftUntil_23 : decode cX8_removeLeftUntil 23 = .ok (.getfield 15, 3) := by decide +kernel
theorem dX8_removeLeftUntil_26 : decode cX8_removeLeftUntil 26 = .ok (.iload_n 2, 1) := by decide +kernel
theorem dX8_removeLeftUntil_27 : decode cX8_removeLeftUntil 27 = .ok (.iload 4, 2) := by decide +kernel
theorem dX8_removeLeftUntil_29 : decode cX8_removeLeftUntil 29 = .ok (.invokestatic 28, 3) := by decide +kernel
theorem dX8_removeLeftUntil_32 : decode cX8_removeLeftUntil 32 = .ok (.iaload, 1) := by decide +kernel
theorem dX8_removeLeftUntil_33 : decode cX8_removeLeftUntil 33 = .ok (.iload_n 1, 1) := by decide +kernel
theorem dX8_removeLeftUntil_34 : decode cX8_removeLeftUntil 34 = .ok (.if_icmp .gt 19, 3) := by decide +kernel
theorem dX8_removeLeftUntil_37 : decode cX8_removeLeftUntil 37 = .ok (.aload_n 0, 1) := by decide +kernel
theorem dX8_removeLeftUntil_38 : decode cX8_removeLeftUntil 38 = .ok (.getfield 9, 3) := by decide +kernel
theorem dX8_removeLeftUntil_41 : decode cX8_removeLeftUntil 41 = .ok (.iload_n 2, 1) := by decide +kernel
theorem dX8_removeLeftUntil_42 : decode cX8_removeLeftUntil 42 = .ok (.iload 4, 2) := by decide +kernel
theorem dX8_removeLeftUntil_44 : decode cX8_removeLeftUntil 44 = .ok (.invokestatic 28, 3) := by decide +kernel
theorem dX8_removeLeftUntil_47 : decode cX8_removeLeftUntil 47 = .ok (.bipush (-5), 2) := by decide +kernel
theorem dX8_removeLeftUntil_49 : decode cX8_removeLeftUntil 49 = .ok (.iastore, 1) := by decide +kernel
theorem dX8_removeLeftUntil_50 : decode cX8_removeLeftUntil 50 = .ok (.iinc 3 1, 3) := by decide +kernel
theorem dX8_removeLeftUntil_53 : decode cX8_removeLeftUntil 53 = .ok (.iinc 4 1, 3) := by decide +kernel
theorem dX8_removeLeftUntil_56 : decode cX8_removeLeftUntil 56 = .ok (.goto (-51), 3) := by decide +kernel
theorem dX8_removeLeftUntil_59 : decode cX8_removeLeftUntil 59 = .ok (.iload_n 3, 1) := by decide +kernel
theorem dX8_removeLeftUntil_60 : decode cX8_removeLeftUntil 60 = .ok (.ireturn, 1) := by decide +kernel
set_option maxRecDepth 100000 in
set_option maxHeartbeats 4000000 in
theorem c_X8_removeLeftUntil (l : Launch) (D : va_G) (cas : Nat → ClassId) (ad : Nat → Nat) (hi : zInj ad) {k : Nat} {v1 : Int} {v2 : Int} (hk : k < zN ∧ lay k = (0, 8)) {r : Int} {M M' : Mem} (hf : f_X8_removeLeftUntil k v1 v2 M = some (r, M')) : zMi l D cas ad yX8_removeLeftUntil cX8_removeLeftUntil 5 (some .int) 2 43 [.ref (ad k), .int (zI v1), .int (zI v2)] M r M' := by
  refine zbody (by decide) (Nat.le_of_ble_eq_true rfl) hi ?_
  intro p e s m args below meth c X hr hk0
  have X : zX p s m args c cX8_removeLeftUntil "ShardTrails$Tracks" 5 D cas ad (zA ad) := X
  have hB53 : ∀ (g5 : Int → Int → Int → Int → Mem → Option (Int × Mem)) (hg5 : ∀ (v1 v2 v3 v4 : Int) (M : Mem), g5 v1 v2 v3 v4 M = some (r, M') → WW p l e (zrm 2 43) s m args below meth c D cas ad (zA ad) 5 0 0 (MQ below (zQi D cas ad r M') args s 0 0 (zA ad)) 5 [(0, .ref (ad k)), (1, .int (zI v1)), (2, .int (zI v2)), (3, .int (zI v3)), (4, .int (zI v4))] [] M) (v1 v2 v3 v4 : Int) (M : Mem), f_X8_removeLeftUntil_b53 g5 k v1 v2 v3 v4 M = some (r, M') → WW p l e (zrm 2 43) s m args below meth c D cas ad (zA ad) 5 0 0 (MQ below (zQi D cas ad r M') args s 0 0 (zA ad)) 53 [(0, .ref (ad k)), (1, .int (zI v1)), (2, .int (zI v2)), (3, .int (zI v3)), (4, .int (zI v4))] [] M := by
    intro g5 hg5 v1 v2 v3 v4 M hf
    unfold f_X8_removeLeftUntil_b53 at hf
    refine R_iinc X (lv' := [(4, .int (zI (v4 + 1))), (0, .ref (ad k)), (1, .int (zI v1)), (2, .int (zI v2)), (3, .int (zI v3))]) 4 dX8_removeLeftUntil_53 rfl (by decide) rfl ?_
    refine R_goto X 5 dX8_removeLeftUntil_56 (by decide) ?_
    exact R_sub [1, 2, 3, 4, 0] rfl (hg5 v1 v2 v3 (v4 + 1) M hf)
  have hB5 : ∀ (n : Nat) (v1 v2 v3 v4 : Int) (M : Mem), f_X8_removeLeftUntil_b5 k n v1 v2 v3 v4 M = some (r, M') → WW p l e (zrm 2 43) s m args below meth c D cas ad (zA ad) 5 0 0 (MQ below (zQi D cas ad r M') args s 0 0 (zA ad)) 5 [(0, .ref (ad k)), (1, .int (zI v1)), (2, .int (zI v2)), (3, .int (zI v3)), (4, .int (zI v4))] [] M := by
    intro n
    induction n with
    | zero => intro v1 v2 v3 v4 M hf; exact absurd hf (by unfold f_X8_removeLeftUntil_b5; simp)
    | succ n ih =>
      intro v1 v2 v3 v4 M hf
      unfold f_X8_removeLeftUntil_b5 at hf
      refine R_iload X 4 dX8_removeLeftUntil_5 rfl ?_
      refine R_bipush X dX8_removeLeftUntil_7 (by decide +kernel) ?_
      obtain ⟨hq1, hf⟩ := zgrd hf
      refine R_icmp_ge X 59 ⟨hq1, (by decide)⟩ dX8_removeLeftUntil_9 (by decide) (fun c21 => ?_) (fun c21 => ?_)
      · have hf := zthen hf c21
        refine R_iload_n X 3 dX8_removeLeftUntil_59 rfl rfl ?_
        exact R_iret X hr hk0 dX8_removeLeftUntil_60 hf
      · have hf := zelse hf c21
        refine R_aload_n X 0 dX8_removeLeftUntil_12 rfl rfl ?_
        refine R_iload_n X 2 dX8_removeLeftUntil_13 rfl rfl ?_
        refine R_iload X 4 dX8_removeLeftUntil_14 rfl ?_
        obtain ⟨r2, M3, hc4, hf⟩ := zbnd_some hf
        refine R_callVi X (av := [.int (zI v2), .int (zI v4)]) (rest := []) (c_X8_isAt l D cas ad hi hk hc4) zy_X8_isAt hk rfl rfl wm_X8_32 rfl rfl ⟨Nat.le_of_ble_eq_true rfl, Nat.le_of_ble_eq_true rfl⟩ ⟨Nat.le_refl _, Nat.le_refl _⟩ (Nat.le_of_ble_eq_true rfl) dX8_removeLeftUntil_16 ?_
        obtain ⟨hq5, hf⟩ := zgrd hf
        refine R_if_eq X 53 hq5 dX8_removeLeftUntil_19 (by decide) (fun c20 => ?_) (fun c20 => ?_)
        · have hf := zthen hf c20
          exact R_sub [0, 1, 2, 3, 4] rfl (hB53 (f_X8_removeLeftUntil_b5 k n) ih v1 v2 v3 v4 M3 hf)
        · have hf := zelse hf c20
          refine R_aload_n X 0 dX8_removeLeftUntil_22 rfl rfl ?_
          have hp6 : k + 2 < zN ∧ lay (k + 2) = (1, 128) := pt_8_1 _ hk.1 hk.2
          refine R_getR X (j := 1) 2 (k + 2) hk rfl inX8 (by decide) rfl rfl (by decide) rfl rfl wf_X8_15 dX8_removeLeftUntil_23 ?_
          refine R_iload_n X 2 dX8_removeLeftUntil_26 rfl rfl ?_
          refine R_iload X 4 dX8_removeLeftUntil_27 rfl ?_
          obtain ⟨r7, M8, hc9, hf⟩ := zbnd_some hf
          refine R_callNi X (av := [.int (zI v2), .int (zI v4)]) (rest := [.ref (ad (k + 2))]) (c_X9_cell l D cas ad hi hc9) zy_X9_cell wn_X8_28 rfl rfl ⟨Nat.le_of_ble_eq_true rfl, Nat.le_of_ble_eq_true rfl⟩ ⟨Nat.le_refl _, Nat.le_refl _⟩ (Nat.le_of_ble_eq_true rfl) dX8_removeLeftUntil_29 ?_
          obtain ⟨hq10, hf⟩ := zgrd hf
          refine R_iald X hp6 hq10 dX8_removeLeftUntil_32 ?_
          refine R_iload_n X 1 dX8_removeLeftUntil_33 rfl rfl ?_
          obtain ⟨hq11, hf⟩ := zgrd hf
          obtain ⟨hq12, hf⟩ := zgrd hf
          refine R_icmp_gt X 53 ⟨hq11, hq12⟩ dX8_removeLeftUntil_34 (by decide) (fun c19 => ?_) (fun c19 => ?_)
          · have hf := zthen hf c19
            exact R_sub [0, 1, 2, 3, 4] rfl (hB53 (f_X8_removeLeftUntil_b5 k n) ih v1 v2 v3 v4 M8 hf)
          · have hf := zelse hf c19
            refine R_aload_n X 0 dX8_removeLeftUntil_37 rfl rfl ?_
            have hp13 : k + 1 < zN ∧ lay (k + 1) = (1, 128) := pt_8_0 _ hk.1 hk.2
            refine R_getR X (j := 0) 1 (k + 1) hk rfl inX8 (by decide) rfl rfl (by decide) rfl rfl wf_X8_9 dX8_removeLeftUntil_38 ?_
            refine R_iload_n X 2 dX8_removeLeftUntil_41 rfl rfl ?_
            refine R_iload X 4 dX8_removeLeftUntil_42 rfl ?_
            obtain ⟨r14, M15, hc16, hf⟩ := zbnd_some hf
            refine R_callNi X (av := [.int (zI v2), .int (zI v4)]) (rest := [.ref (ad (k + 1))]) (c_X9_cell l D cas ad hi hc16) zy_X9_cell wn_X8_28 rfl rfl ⟨Nat.le_of_ble_eq_true rfl, Nat.le_of_ble_eq_true rfl⟩ ⟨Nat.le_refl _, Nat.le_refl _⟩ (Nat.le_of_ble_eq_true rfl) dX8_removeLeftUntil_44 ?_
            refine R_bipush X dX8_removeLeftUntil_47 (by decide +kernel) ?_
            obtain ⟨hq17, hf⟩ := zgrd hf
            obtain ⟨M18, eM18, hf⟩ := zlt_some hf
            refine R_iast X hp13 hq17 dX8_removeLeftUntil_49 ?_
            refine R_mem eM18 ?_
            refine R_iinc X (lv' := [(3, .int (zI (v3 + 1))), (0, .ref (ad k)), (1, .int (zI v1)), (2, .int (zI v2)), (4, .int (zI v4))]) 3 dX8_removeLeftUntil_50 rfl (by decide) rfl ?_
            exact R_sub [1, 2, 3, 0, 4] rfl (hB53 (f_X8_removeLeftUntil_b5 k n) ih v1 v2 (v3 + 1) v4 M18 hf)
  unfold f_X8_removeLeftUntil at hf
  refine (?_ : WW p l e (zrm 2 43) s m args below meth c D cas ad (zA ad) 5 0 0 (MQ below (zQi D cas ad r M') args s 0 0 (zA ad)) 0 [(0, .ref (ad k)), (1, .int (zI v1)), (2, .int (zI v2))] [] M)
  refine R_iconst X dX8_removeLeftUntil_0 ?_
  refine R_istore_n X (lv' := [(3, .int (zI 0)), (0, .ref (ad k)), (1, .int (zI v1)), (2, .int (zI v2))]) dX8_removeLeftUntil_1 rfl (by decide) rfl ?_
  refine R_iconst X dX8_removeLeftUntil_2 ?_
  refine R_istore X (lv' := [(4, .int (zI 0)), (3, .int (zI 0)), (0, .ref (ad k)), (1, .int (zI v1)), (2, .int (zI v2))]) dX8_removeLeftUntil_3 (by decide) rfl ?_
  exact R_sub [2, 3, 4, 1, 0] rfl (hB5 100000 v1 v2 0 0 M hf)
theorem dX7_letWolfCut_0 : decode cX7_letWolfCut 0 = .ok (.aload_n 0, 1) := by decide +kernel
theorem dX7_letWolfCut_1 : decode cX7_letWolfCut 1 = .ok (.getfield 53, 3) := by decide +kernel
theorem dX7_letWolfCut_4 : decode cX7_letWolfCut 4 = .ok (.getfield 128, 3) := by decide +kernel
theorem dX7_letWolfCut_7 : decode cX7_letWolfCut 7 = .ok (.iload_n 1, 1) := by decide +kernel
theorem dX7_letWolfCut_8 : decode cX7_letWolfCut 8 = .ok (.iaload, 1) := by decide +kernel
theorem dX7_letWolfCut_9 : decode cX7_letWolfCut 9 = .ok (.istore_n 2, 1) := by decide +kernel
theorem dX7_letWolfCut_10 : decode cX7_letWolfCut 10 = .ok (.aload_n 0, 1) := by decide +kernel
theorem dX7_letWolfCut_11 : decode cX7_letWolfCut 11 = .ok (.getfield 32, 3) := by decide +kernel
theorem dX7_letWolfCut_14 : decode cX7_letWolfCut 14 = .ok (.getfield 131, 3) := by decide +kernel
theorem dX7_letWolfCut_17 : decode cX7_letWolfCut 17 = .ok (.iload_n 2, 1) := by decide +kernel
theorem dX7_letWolfCut_18 : decode cX7_letWolfCut 18 = .ok (.baload, 1) := by decide +kernel
theorem dX7_letWolfCut_19 : decode cX7_letWolfCut 19 = .ok (.ifCond .eq 7, 3) := by decide +kernel
theorem dX7_letWolfCut_22 : decode cX7_letWolfCut 22 = .ok (.iconst 0, 1) := by decide +kernel
theorem dX7_letWolfCut_23 : decode cX7_letWolfCut 23 = .ok (.goto 15, 3) := by decide +kernel
theorem dX7_letWolfCut_26 : decode cX7_letWolfCut 26 = .ok (.aload_n 0, 1) := by decide +kernel
theorem dX7_letWolfCut_27 : decode cX7_letWolfCut 27 = .ok (.getfield 39, 3) := by decide +kernel
theorem dX7_letWolfCut_30 : decode cX7_letWolfCut 30 = .ok (.aload_n 0, 1) := by decide +kernel
theorem dX7_letWolfCut_31 : decode cX7_letWolfCut 31 = .ok (.getfield 67, 3) := by decide +kernel
theorem dX7_letWolfCut_34 : decode cX7_letWolfCut 34 = .ok (.iload_n 2, 1) := by decide +kernel
theorem dX7_letWolfCut_35 : decode cX7_letWolfCut 35 = .ok (.invokevirtual 135, 3) := by decide +kernel
theorem dX7_letWolfCut_38 : decode cX7_letWolfCut 38 = .ok (.istore_n 3, 1) := by decide +kernel
theorem dX7_letWolfCut_39 : decode cX7_letWolfCut 39 = .ok (.aload_n 0, 1) := by decide +kernel
theorem dX7_letWolfCut_40 : decode cX7_letWolfCut 40 = .ok (.dup, 1) := by decide +kernel
theorem dX7_letWolfCut_41 : decode cX7_letWolfCut 41 = .ok (.getfield 71, 3) := by decide +kernel
theorem dX7_letWolfCut_44 : decode cX7_letWolfCut 44 = .ok (.iload_n 3, 1) := by decide +kernel
theorem dX7_letWolfCut_45 : decode cX7_letWolfCut 45 = .ok (.iadd, 1) := by decide +kernel
theorem dX7_letWolfCut_46 : decode cX7_letWolfCut 46 = .ok (.putfield 71, 3) := by decide +kernel
theorem dX7_letWolfCut_49 : decode cX7_letWolfCut 49 = .ok (.iload_n 3, 1) := by decide +kernel
theorem dX7_letWolfCut_50 : decode cX7_letWolfCut 50 = .ok (.ireturn, 1) := by decide +kernel
set_option maxRecDepth 100000 in
set_option maxHeartbeats 4000000 in
theorem c_X7_letWolfCut (l : Launch) (D : va_G) (cas : Nat → ClassId) (ad : Nat → Nat) (hi : zInj ad) {k : Nat} {v1 : Int} (hk : k < zN ∧ lay k = (0, 7)) {r : Int} {M M' : Mem} (hf : f_X7_letWolfCut k v1 M = some (r, M')) : zMi l D cas ad yX7_letWolfCut cX7_letWolfCut 4 (some .int) 3 67 [.ref (ad k), .int (zI v1)] M r M' := by
  refine zbody (by decide) (Nat.le_of_ble_eq_true rfl) hi ?_
  intro p e s m args below meth c X hr hk0
  have X : zX p s m args c cX7_letWolfCut "ShardTrails$State" 4 D cas ad (zA ad) := X
  have hB38 : ∀ (t1 : Int) (M : Mem), f_X7_letWolfCut_b38 k t1 M = some (r, M') → WW p l e (zrm 3 67) s m args below meth c D cas ad (zA ad) 4 0 0 (MQ below (zQi D cas ad r M') args s 0 0 (zA ad)) 38 [(0, .ref (ad k))] [.int (zI t1)] M := by
    intro t1 M hf
    unfold f_X7_letWolfCut_b38 at hf
    refine R_istore_n X (lv' := [(3, .int (zI t1)), (0, .ref (ad k))]) dX7_letWolfCut_38 rfl (by decide) rfl ?_
    refine R_aload_n X 1 dX7_letWolfCut_39 rfl rfl ?_
    refine R_dup X dX7_letWolfCut_40 rfl ?_
    refine R_getI X (j := 1) hk rfl inX7 (by decide) rfl rfl rfl wf_X7_71 dX7_letWolfCut_41 ?_
    refine R_iload_n X 0 dX7_letWolfCut_44 rfl rfl ?_
    refine R_iadd X dX7_letWolfCut_45 ?_
    obtain ⟨M14, eM14, hf⟩ := zlt_some hf
    refine R_put X (j := 1) hk rfl inX7 tyX7_ok nmX7 (by decide) rfl rfl rfl wf_X7_71 rfl (by decide +kernel) (z_nI _) (z_fI _) dX7_letWolfCut_46 ?_
    refine R_mem eM14 ?_
    refine R_iload_n X 0 dX7_letWolfCut_49 rfl rfl ?_
    exact R_iret X hr hk0 dX7_letWolfCut_50 hf
  unfold f_X7_letWolfCut at hf
  refine (?_ : WW p l e (zrm 3 67) s m args below meth c D cas ad (zA ad) 4 0 0 (MQ below (zQi D cas ad r M') args s 0 0 (zA ad)) 0 [(0, .ref (ad k)), (1, .int (zI v1))] [] M)
  refine R_aload_n X 0 dX7_letWolfCut_0 rfl rfl ?_
  have hp1 : k + 18 < zN ∧ lay (k + 18) = (0, 3) := pt_7_8 _ hk.1 hk.2
  refine R_getR X (j := 8) 18 (k + 18) hk rfl inX7 (by decide) rfl rfl (by decide) rfl rfl wf_X7_53 dX7_letWolfCut_1 ?_
  have hp2 : k + 19 < zN ∧ lay (k + 19) = (1, 3) := pt_3_1 _ hp1.1 hp1.2
  refine R_getR X (j := 1) 1 (k + 19) hp1 rfl inX3 (by decide) rfl rfl (by decide) rfl rfl wf_X7_128 dX7_letWolfCut_4 ?_
  refine R_iload_n X 1 dX7_letWolfCut_7 rfl rfl ?_
  obtain ⟨hq3, hf⟩ := zgrd hf
  refine R_iald X hp2 hq3 dX7_letWolfCut_8 ?_
  obtain ⟨x4, ex4, hf⟩ := zlt_some hf
  refine R_istore_nX X (lv' := [(2, .int (zI x4)), (0, .ref (ad k)), (1, .int (zI v1))]) ex4 dX7_letWolfCut_9 rfl (by decide) rfl ?_
  refine R_aload_n X 1 dX7_letWolfCut_10 rfl rfl ?_
  have hp5 : k + 3 < zN ∧ lay (k + 3) = (0, 2) := pt_7_5 _ hk.1 hk.2
  refine R_getR X (j := 5) 3 (k + 3) hk rfl inX7 (by decide) rfl rfl (by decide) rfl rfl wf_X7_32 dX7_letWolfCut_11 ?_
  have hp6 : k + 8 < zN ∧ lay (k + 8) = (2, 8) := pt_2_5 _ hp5.1 hp5.2
  refine R_getR X (j := 5) 5 (k + 8) hp5 rfl inX2 (by decide) rfl rfl (by decide) rfl rfl wf_X7_131 dX7_letWolfCut_14 ?_
  refine R_iload_n X 0 dX7_letWolfCut_17 rfl rfl ?_
  obtain ⟨hq7, hf⟩ := zgrd hf
  refine R_zald X hp6 hq7 dX7_letWolfCut_18 ?_
  obtain ⟨hq8, hf⟩ := zgrd hf
  refine R_if_eq X 26 hq8 dX7_letWolfCut_19 (by decide) (fun c13 => ?_) (fun c13 => ?_)
  · have hf := zthen hf c13
    refine R_aload_n X 1 dX7_letWolfCut_26 rfl rfl ?_
    have hp9 : k + 10 < zN ∧ lay (k + 10) = (0, 8) := pt_7_6 _ hk.1 hk.2
    refine R_getR X (j := 6) 10 (k + 10) hk rfl inX7 (by decide) rfl rfl (by decide) rfl rfl wf_X7_39 dX7_letWolfCut_27 ?_
    refine R_aload_n X 1 dX7_letWolfCut_30 rfl rfl ?_
    refine R_getI X (j := 0) hk rfl inX7 (by decide) rfl rfl rfl wf_X7_67 dX7_letWolfCut_31 ?_
    refine R_iload_n X 0 dX7_letWolfCut_34 rfl rfl ?_
    obtain ⟨r10, M11, hc12, hf⟩ := zbnd_some hf
    refine R_callVi X (av := [.int (zI (M k 0)), .int (zI x4)]) (rest := []) (c_X8_removeLeftUntil l D cas ad hi hp9 hc12) zy_X8_removeLeftUntil hp9 rfl rfl wm_X7_135 rfl rfl ⟨Nat.le_of_ble_eq_true rfl, Nat.le_of_ble_eq_true rfl⟩ ⟨Nat.le_refl _, Nat.le_refl _⟩ (Nat.le_of_ble_eq_true rfl) dX7_letWolfCut_35 ?_
    exact R_sub [1] rfl (hB38 r10 M11 hf)
  · have hf := zelse hf c13
    refine R_iconst X dX7_letWolfCut_22 ?_
    refine R_goto X 38 dX7_letWolfCut_23 (by decide) ?_
    exact R_sub [1] rfl (hB38 0 M hf)
theorem dX7_tracksInReach_0 : decode cX7_tracksInReach 0 = .ok (.aload_n 0, 1) := by decide +kernel
theorem dX7_tracksInReach_1 : decode cX7_tracksInReach 1 = .ok (.getfield 53, 3) := by decide +kernel
theorem dX7_tracksInReach_4 : decode cX7_tracksInReach 4 = .ok (.getfield 128, 3) := by decide +kernel
theorem dX7_tracksInReach_7 : decode cX7_tracksInReach 7 = .ok (.iload_n 1, 1) := by decide +kernel
theorem dX7_tracksInReach_8 : decode cX7_tracksInReach 8 = .ok (.iaload, 1) := by decide +kernel
theorem dX7_tracksInReach_9 : decode cX7_tracksInReach 9 = .ok (.istore_n 2, 1) := by decide +kernel
theorem dX7_tracksInReach_10 : decode cX7_tracksInReach 10 = .ok (.aload_n 0, 1) := by decide +kernel
theorem dX7_tracksInReach_11 : decode cX7_tracksInReach 11 = .ok (.getfield 32, 3) := by decide +kernel
theorem dX7_tracksInReach_14 : decode cX7_tracksInReach 14 = .ok (.getfield 131, 3) := by decide +kernel
theorem dX7_tracksInReach_17 : decode cX7_tracksInReach 17 = .ok (.iload_n 2, 1) := by decide +kernel
theorem dX7_tracksInReach_18 : decode cX7_tracksInReach 18 = .ok (.baload, 1) := by decide +kernel
theorem dX7_tracksInReach_19 : decode cX7_tracksInReach 19 = .ok (.ifCond .eq 7, 3) := by decide +kernel
theorem dX7_tracksInReach_22 : decode cX7_tracksInReach 22 = .ok (.iconst 0, 1) := by decide +kernel
theorem dX7_tracksInReach_23 : decode cX7_tracksInReach 23 = .ok (.goto 11, 3) := by decide +kernel
theorem dX7_tracksInReach_26 : decode cX7_tracksInReach 26 = .ok (.aload_n 0, 1) := by decide +kernel
theorem dX7_tracksInReach_27 : decode cX7_tracksInReach 27 = .ok (.getfield 39, 3) := by decide +kernel
theorem dX7_tracksInReach_30 : decode cX7_tracksInReach 30 = .ok (.iload_n 2, 1) := by decide +kernel
theorem dX7_tracksInReach_31 : decode cX7_tracksInReach 31 = .ok (.invokevirtual 139, 3) := by decide +kernel
theorem dX7_tracksInReach_34 : decode cX7_tracksInReach 34 = .ok (.ireturn, 1) := by decide +kernel
set_option maxRecDepth 100000 in
set_option maxHeartbeats 4000000 in
theorem c_X7_tracksInReach (l : Launch) (D : va_G) (cas : Nat → ClassId) (ad : Nat → Nat) (hi : zInj ad) {k : Nat} {v1 : Int} (hk : k < zN ∧ lay k = (0, 7)) {r : Int} {M M' : Mem} (hf : f_X7_tracksInReach k v1 M = some (r, M')) : zMi l D cas ad yX7_tracksInReach cX7_tracksInReach 3 (some .int) 3 66 [.ref (ad k), .int (zI v1)] M r M' := by
  refine zbody (by decide) (Nat.le_of_ble_eq_true rfl) hi ?_
  intro p e s m args below meth c X hr hk0
  have X : zX p s m args c cX7_tracksInReach "ShardTrails$State" 3 D cas ad (zA ad) := X
  have hB34 : ∀ (t1 : Int) (M : Mem), f_X7_tracksInReach_b34 k t1 M = some (r, M') → WW p l e (zrm 3 66) s m args below meth c D cas ad (zA ad) 3 0 0 (MQ below (zQi D cas ad r M') args s 0 0 (zA ad)) 34 [] [.int (zI t1)] M := by
    intro t1 M hf
    unfold f_X7_tracksInReach_b34 at hf
    exact R_iret X hr hk0 dX7_tracksInReach_34 hf
  unfold f_X7_tracksInReach at hf
  refine (?_ : WW p l e (zrm 3 66) s m args below meth c D cas ad (zA ad) 3 0 0 (MQ below (zQi D cas ad r M') args s 0 0 (zA ad)) 0 [(0, .ref (ad k)), (1, .int (zI v1))] [] M)
  refine R_aload_n X 0 dX7_tracksInReach_0 rfl rfl ?_
  have hp1 : k + 18 < zN ∧ lay (k + 18) = (0, 3) := pt_7_8 _ hk.1 hk.2
  refine R_getR X (j := 8) 18 (k + 18) hk rfl inX7 (by decide) rfl rfl (by decide) rfl rfl wf_X7_53 dX7_tracksInReach_1 ?_
  have hp2 : k + 19 < zN ∧ lay (k + 19) = (1, 3) := pt_3_1 _ hp1.1 hp1.2
  refine R_getR X (j := 1) 1 (k + 19) hp1 rfl inX3 (by decide) rfl rfl (by decide) rfl rfl wf_X7_128 dX7_tracksInReach_4 ?_
  refine R_iload_n X 1 dX7_tracksInReach_7 rfl rfl ?_
  obtain ⟨hq3, hf⟩ := zgrd hf
  refine R_iald X hp2 hq3 dX7_tracksInReach_8 ?_
  obtain ⟨x4, ex4, hf⟩ := zlt_some hf
  refine R_istore_nX X (lv' := [(2, .int (zI x4)), (0, .ref (ad k)), (1, .int (zI v1))]) ex4 dX7_tracksInReach_9 rfl (by decide) rfl ?_
  refine R_aload_n X 1 dX7_tracksInReach_10 rfl rfl ?_
  have hp5 : k + 3 < zN ∧ lay (k + 3) = (0, 2) := pt_7_5 _ hk.1 hk.2
  refine R_getR X (j := 5) 3 (k + 3) hk rfl inX7 (by decide) rfl rfl (by decide) rfl rfl wf_X7_32 dX7_tracksInReach_11 ?_
  have hp6 : k + 8 < zN ∧ lay (k + 8) = (2, 8) := pt_2_5 _ hp5.1 hp5.2
  refine R_getR X (j := 5) 5 (k + 8) hp5 rfl inX2 (by decide) rfl rfl (by decide) rfl rfl wf_X7_131 dX7_tracksInReach_14 ?_
  refine R_iload_n X 0 dX7_tracksInReach_17 rfl rfl ?_
  obtain ⟨hq7, hf⟩ := zgrd hf
  refine R_zald X hp6 hq7 dX7_tracksInReach_18 ?_
  obtain ⟨hq8, hf⟩ := zgrd hf
  refine R_if_eq X 26 hq8 dX7_tracksInReach_19 (by decide) (fun c13 => ?_) (fun c13 => ?_)
  · have hf := zthen hf c13
    refine R_aload_n X 1 dX7_tracksInReach_26 rfl rfl ?_
    have hp9 : k + 10 < zN ∧ lay (k + 10) = (0, 8) := pt_7_6 _ hk.1 hk.2
    refine R_getR X (j := 6) 10 (k + 10) hk rfl inX7 (by decide) rfl rfl (by decide) rfl rfl wf_X7_39 dX7_tracksInReach_27 ?_
    refine R_iload_n X 0 dX7_tracksInReach_30 rfl rfl ?_
    obtain ⟨r10, M11, hc12, hf⟩ := zbnd_some hf
    refine R_callVi X (av := [.int (zI x4)]) (rest := []) (c_X8_countIn l D cas ad hi hp9 hc12) zy_X8_countIn hp9 rfl rfl wm_X7_139 rfl rfl ⟨Nat.le_of_ble_eq_true rfl, Nat.le_of_ble_eq_true rfl⟩ ⟨Nat.le_refl _, Nat.le_refl _⟩ (Nat.le_of_ble_eq_true rfl) dX7_tracksInReach_31 ?_
    exact R_sub [] rfl (hB34 r10 M11 hf)
  · have hf := zelse hf c13
    refine R_iconst X dX7_tracksInReach_22 ?_
    refine R_goto X 34 dX7_tracksInReach_23 (by decide) ?_
    exact R_sub [] rfl (hB34 0 M hf)
theorem dX9_cut_0 : decode cX9_cut 0 = .ok (.iload_n 1, 1) := by decide +kernel
theorem dX9_cut_1 : decode cX9_cut 1 = .ok (.iconst 0, 1) := by decide +kernel
theorem dX9_cut_2 : decode cX9_cut 2 = .ok (.aload_n 0, 1) := by decide +kernel
theorem dX9_cut_3 : decode cX9_cut 3 = .ok (.getfield 12, 3) := by decide +kernel
theorem dX9_cut_6 : decode cX9_cut 6 = .ok (.getfield 88, 3) := by decide +kernel
theorem dX9_cut_9 : decode cX9_cut 9 = .ok (.getfield 92, 3) := by decide +kernel
theorem dX9_cut_12 : decode cX9_cut 12 = .ok (.iconst 1, 1) := by decide +kernel
theorem dX9_cut_13 : decode cX9_cut 13 = .ok (.isub, 1) := by decide +kernel
theorem dX9_cut_14 : decode cX9_cut 14 = .ok (.invokestatic 43, 3) := by decide +kernel
theorem dX9_cut_17 : decode cX9_cut 17 = .ok (.ifCond .ne 5, 3) := by decide +kernel
theorem dX9_cut_20 : decode cX9_cut 20 = .ok (.iconst (-1), 1) := by decide +kernel
theorem dX9_cut_21 : decode cX9_cut 21 = .ok (.ireturn, 1) := by decide +kernel
theorem dX9_cut_22 : decode cX9_cut 22 = .ok (.aload_n 0, 1) := by decide +kernel
theorem dX9_cut_23 : decode cX9_cut 23 = .ok (.getfield 12, 3) := by decide +kernel
theorem dX9_cut_26 : decode cX9_cut 26 = .ok (.iload_n 1, 1) := by decide +kernel
theorem dX9_cut_27 : decode cX9_cut 27 = .ok (.invokevirtual 149, 3) := by decide +kernel
theorem dX9_cut_30 : decode cX9_cut 30 = .ok (.iconst 1, 1) := by decide +kernel
theorem dX9_cut_31 : decode cX9_cut 31 = .ok (.if_icmp .ge 6, 3) := by decide +kernel
theorem dX9_cut_34 : decode cX9_cut 34 = .ok (.bipush (-5), 2) := by decide +kernel
theorem dX9_cut_36 : decode cX9_cut 36 = .ok (.ireturn, 1) := by decide +kernel
theorem dX9_cut_37 : decode cX9_cut 37 = .ok (.aload_n 0, 1) := by decide +kernel
theorem dX9_cut_38 : decode cX9_cut 38 = .ok (.getfield 25, 3) := by decide +kernel
theorem dX9_cut_41 : decode cX9_cut 41 = .ok (.aload_n 0, 1) := by decide +kernel
theorem dX9_cut_42 : decode cX9_cut 42 = .ok (.getfield 12, 3) := by decide +kernel
theorem dX9_cut_45 : decode cX9_cut 45 = .ok (.invokevirtual 57, 3) := by decide +kernel
theorem dX9_cut_48 : decode cX9_cut 48 = .ok (.aload_n 0, 1) := by decide +kernel
theorem dX9_cut_49 : decode cX9_cut 49 = .ok (.getfield 12, 3) := by decide +kernel
theorem dX9_cut_52 : decode cX9_cut 52 = .ok (.iload_n 1, 1) := by decide +kernel
theorem dX9_cut_53 : decode cX9_cut 53 = .ok (.invokevirtual 152, 3) := by decide +kernel
theorem dX9_cut_56 : decode cX9_cut 56 = .ok (.ireturn, 1) := by decide +kernel
set_option maxRecDepth 100000 in
set_option maxHeartbeats 4000000 in
theorem c_X9_cut (l : Launch) (D : va_G) (cas : Nat → ClassId) (ad : Nat → Nat) (hi : zInj ad) {v1 : Int}  {r : Int} {M M' : Mem} (hf : f_X9_cut v1 M = some (r, M')) : zMi l D cas ad yX9_cut cX9_cut 2 (some .int) 5 111 [.ref (ad 0), .int (zI v1)] M r M' := by
  refine zbody (by decide) (Nat.le_of_ble_eq_true rfl) hi ?_
  intro p e s m args below meth c X hr hk0
  have X : zX p s m args c cX9_cut "ShardTrails" 2 D cas ad (zA ad) := X
  unfold f_X9_cut at hf
  refine (?_ : WW p l e (zrm 5 111) s m args below meth c D cas ad (zA ad) 2 0 0 (MQ below (zQi D cas ad r M') args s 0 0 (zA ad)) 0 [(0, .ref (ad 0)), (1, .int (zI v1))] [] M)
  refine R_iload_n X 1 dX9_cut_0 rfl rfl ?_
  refine R_iconst X dX9_cut_1 ?_
  refine R_aload_n X 0 dX9_cut_2 rfl rfl ?_
  refine R_getR X (j := 0) 1 1 lc_0 rfl inX9 (by decide) rfl rfl (by decide) rfl rfl wf_X9_12 dX9_cut_3 ?_
  refine R_getR X (j := 8) 18 19 lc_1 rfl inX7 (by decide) rfl rfl (by decide) rfl rfl wf_X9_88 dX9_cut_6 ?_
  refine R_getI X (j := 0) lc_19 rfl inX3 (by decide) rfl rfl rfl wf_X9_92 dX9_cut_9 ?_
  refine R_iconst X dX9_cut_12 ?_
  refine R_isub X dX9_cut_13 ?_
  obtain ⟨r1, M2, hc3, hf⟩ := zbnd_some hf
  refine R_callSi X (av := [.int (zI v1), .int (zI 0), .int (zI ((M 19 0) - 1))]) (rest := []) (c_X9_isWithin l D cas ad hi hc3) zy_X9_isWithin wm_X9_43 rfl rfl ⟨Nat.le_of_ble_eq_true rfl, Nat.le_of_ble_eq_true rfl⟩ ⟨Nat.le_refl _, Nat.le_refl _⟩ (Nat.le_of_ble_eq_true rfl) dX9_cut_14 ?_
  obtain ⟨hq4, hf⟩ := zgrd hf
  refine R_if_ne X 22 hq4 dX9_cut_17 (by decide) (fun c16 => ?_) (fun c16 => ?_)
  · have hf := zelse hf c16
    refine R_aload_n X 0 dX9_cut_22 rfl rfl ?_
    refine R_getR X (j := 0) 1 1 lc_0 rfl inX9 (by decide) rfl rfl (by decide) rfl rfl wf_X9_12 dX9_cut_23 ?_
    refine R_iload_n X 1 dX9_cut_26 rfl rfl ?_
    obtain ⟨r5, M6, hc7, hf⟩ := zbnd_some hf
    refine R_callVi X (av := [.int (zI v1)]) (rest := []) (c_X7_tracksInReach l D cas ad hi lc_1 hc7) zy_X7_tracksInReach lc_1 rfl rfl wm_X9_149 rfl rfl ⟨Nat.le_of_ble_eq_true rfl, Nat.le_of_ble_eq_true rfl⟩ ⟨Nat.le_refl _, Nat.le_refl _⟩ (Nat.le_of_ble_eq_true rfl) dX9_cut_27 ?_
    refine R_iconst X dX9_cut_30 ?_
    obtain ⟨hq8, hf⟩ := zgrd hf
    refine R_icmp_ge X 37 ⟨hq8, (by decide)⟩ dX9_cut_31 (by decide) (fun c15 => ?_) (fun c15 => ?_)
    · have hf := zthen hf c15
      refine R_aload_n X 0 dX9_cut_37 rfl rfl ?_
      refine R_getR X (j := 3) 88 88 lc_0 rfl inX9 (by decide) rfl rfl (by decide) rfl rfl wf_X9_25 dX9_cut_38 ?_
      refine R_aload_n X 0 dX9_cut_41 rfl rfl ?_
      refine R_getR X (j := 0) 1 1 lc_0 rfl inX9 (by decide) rfl rfl (by decide) rfl rfl wf_X9_12 dX9_cut_42 ?_
      obtain ⟨r9, M10, hc11, hf⟩ := zbnd_some hf
      refine R_callVv X (av := [.ref (ad 1)]) (rest := []) (c_X1_store l D cas ad hi lc_1 hc11) zy_X1_store lc_88 rfl rfl wm_X9_57 rfl rfl ⟨Nat.le_of_ble_eq_true rfl, Nat.le_of_ble_eq_true rfl⟩ ⟨Nat.le_refl _, Nat.le_refl _⟩ (Nat.le_of_ble_eq_true rfl) dX9_cut_45 ?_
      refine R_aload_n X 0 dX9_cut_48 rfl rfl ?_
      refine R_getR X (j := 0) 1 1 lc_0 rfl inX9 (by decide) rfl rfl (by decide) rfl rfl wf_X9_12 dX9_cut_49 ?_
      refine R_iload_n X 1 dX9_cut_52 rfl rfl ?_
      obtain ⟨r12, M13, hc14, hf⟩ := zbnd_some hf
      refine R_callVi X (av := [.int (zI v1)]) (rest := []) (c_X7_letWolfCut l D cas ad hi lc_1 hc14) zy_X7_letWolfCut lc_1 rfl rfl wm_X9_152 rfl rfl ⟨Nat.le_of_ble_eq_true rfl, Nat.le_of_ble_eq_true rfl⟩ ⟨Nat.le_refl _, Nat.le_refl _⟩ (Nat.le_of_ble_eq_true rfl) dX9_cut_53 ?_
      exact R_iret X hr hk0 dX9_cut_56 hf
    · have hf := zelse hf c15
      refine R_bipush X dX9_cut_34 (by decide +kernel) ?_
      exact R_iret X hr hk0 dX9_cut_36 hf
  · have hf := zthen hf c16
    refine R_iconst X dX9_cut_20 ?_
    exact R_iret X hr hk0 dX9_cut_21 hf
theorem dX9_driveWolf_0 : decode cX9_driveWolf 0 = .ok (.aload_n 0, 1) := by decide +kernel
theorem dX9_driveWolf_1 : decode cX9_driveWolf 1 = .ok (.getfield 12, 3) := by decide +kernel
theorem dX9_driveWolf_4 : decode cX9_driveWolf 4 = .ok (.getfield 88, 3) := by decide +kernel
theorem dX9_driveWolf_7 : decode cX9_driveWolf 7 = .ok (.getfield 92, 3) := by decide +kernel
theorem dX9_driveWolf_10 : decode cX9_driveWolf 10 = .ok (.iconst 1, 1) := by decide +kernel
theorem dX9_driveWolf_11 : decode cX9_driveWolf 11 = .ok (.if_icmp .ge 6, 3) := by decide +kernel
theorem dX9_driveWolf_14 : decode cX9_driveWolf 14 = .ok (.bipush (-5), 2) := by decide +kernel
theorem dX9_driveWolf_16 : decode cX9_driveWolf 16 = .ok (.ireturn, 1) := by decide +kernel
theorem dX9_driveWolf_17 : decode cX9_driveWolf 17 = .ok (.aload_n 0, 1) := by decide +kernel
theorem dX9_driveWolf_18 : decode cX9_driveWolf 18 = .ok (.getfield 25, 3) := by decide +kernel
theorem dX9_driveWolf_21 : decode cX9_driveWolf 21 = .ok (.aload_n 0, 1) := by decide +kernel
theorem dX9_driveWolf_22 : decode cX9_driveWolf 22 = .ok (.getfield 12, 3) := by decide +kernel
theorem dX9_driveWolf_25 : decode cX9_driveWolf 25 = .ok (.invokevirtual 57, 3) := by decide +kernel
theorem dX9_driveWolf_28 : decode cX9_driveWolf 28 = .ok (.aload_n 0, 1) := by decide +kernel
theorem dX9_driveWolf_29 : decode cX9_driveWolf 29 = .ok (.getfield 12, 3) := by decide +kernel
theorem dX9_driveWolf_32 : decode cX9_driveWolf 32 = .ok (.getfield 88, 3) := by decide +kernel
theorem dX9_driveWolf_35 : decode cX9_driveWolf 35 = .ok (.dup, 1) := by decide +kernel
theorem dX9_driveWolf_36 : decode cX9_driveWolf 36 = .ok (.getfield 92, 3) := by decide +kernel
theorem dX9_driveWolf_39 : decode cX9_driveWolf 39 = .ok (.iconst 1, 1) := by decide +kernel
theorem dX9_driveWolf_40 : decode cX9_driveWolf 40 = .ok (.isub, 1) := by decide +kernel
theorem dX9_driveWolf_41 : decode cX9_driveWolf 41 = .ok (.putfield 92, 3) := by decide +kernel
theorem dX9_driveWolf_44 : decode cX9_driveWolf 44 = .ok (.aload_n 0, 1) := by decide +kernel
theorem dX9_driveWolf_45 : decode cX9_driveWolf 45 = .ok (.getfield 12, 3) := by decide +kernel
theorem dX9_driveWolf_48 : decode cX9_driveWolf 48 = .ok (.getfield 88, 3) := by decide +kernel
theorem dX9_driveWolf_51 : decode cX9_driveWolf 51 = .ok (.getfield 92, 3) := by decide +kernel
theorem dX9_driveWolf_54 : decode cX9_driveWolf 54 = .ok (.ireturn, 1) := by decide +kernel
set_option maxRecDepth 100000 in
set_option maxHeartbeats 4000000 in
theorem c_X9_driveWolf (l : Launch) (D : va_G) (cas : Nat → ClassId) (ad : Nat → Nat) (hi : zInj ad)   {r : Int} {M M' : Mem} (hf : f_X9_driveWolf M = some (r, M')) : zMi l D cas ad yX9_driveWolf cX9_driveWolf 1 (some .int) 5 111 [.ref (ad 0)] M r M' := by
  refine zbody (by decide) (Nat.le_of_ble_eq_true rfl) hi ?_
  intro p e s m args below meth c X hr hk0
  have X : zX p s m args c cX9_driveWolf "ShardTrails" 1 D cas ad (zA ad) := X
  unfold f_X9_driveWolf at hf
  refine (?_ : WW p l e (zrm 5 111) s m args below meth c D cas ad (zA ad) 1 0 0 (MQ below (zQi D cas ad r M') args s 0 0 (zA ad)) 0 [(0, .ref (ad 0))] [] M)
  refine R_aload_n X 0 dX9_driveWolf_0 rfl rfl ?_
  refine R_getR X (j := 0) 1 1 lc_0 rfl inX9 (by decide) rfl rfl (by decide) rfl rfl wf_X9_12 dX9_driveWolf_1 ?_
  refine R_getR X (j := 8) 18 19 lc_1 rfl inX7 (by decide) rfl rfl (by decide) rfl rfl wf_X9_88 dX9_driveWolf_4 ?_
  refine R_getI X (j := 0) lc_19 rfl inX3 (by decide) rfl rfl rfl wf_X9_92 dX9_driveWolf_7 ?_
  refine R_iconst X dX9_driveWolf_10 ?_
  obtain ⟨hq1, hf⟩ := zgrd hf
  refine R_icmp_ge X 17 ⟨hq1, (by decide)⟩ dX9_driveWolf_11 (by decide) (fun c6 => ?_) (fun c6 => ?_)
  · have hf := zthen hf c6
    refine R_aload_n X 0 dX9_driveWolf_17 rfl rfl ?_
    refine R_getR X (j := 3) 88 88 lc_0 rfl inX9 (by decide) rfl rfl (by decide) rfl rfl wf_X9_25 dX9_driveWolf_18 ?_
    refine R_aload_n X 0 dX9_driveWolf_21 rfl rfl ?_
    refine R_getR X (j := 0) 1 1 lc_0 rfl inX9 (by decide) rfl rfl (by decide) rfl rfl wf_X9_12 dX9_driveWolf_22 ?_
    obtain ⟨r2, M3, hc4, hf⟩ := zbnd_some hf
    refine R_callVv X (av := [.ref (ad 1)]) (rest := []) (c_X1_store l D cas ad hi lc_1 hc4) zy_X1_store lc_88 rfl rfl wm_X9_57 rfl rfl ⟨Nat.le_of_ble_eq_true rfl, Nat.le_of_ble_eq_true rfl⟩ ⟨Nat.le_refl _, Nat.le_refl _⟩ (Nat.le_of_ble_eq_true rfl) dX9_driveWolf_25 ?_
    refine R_aload_n X 0 dX9_driveWolf_28 rfl rfl ?_
    refine R_getR X (j := 0) 1 1 lc_0 rfl inX9 (by decide) rfl rfl (by decide) rfl rfl wf_X9_12 dX9_driveWolf_29 ?_
    refine R_getR X (j := 8) 18 19 lc_1 rfl inX7 (by decide) rfl rfl (by decide) rfl rfl wf_X9_88 dX9_driveWolf_32 ?_
    refine R_dup X dX9_driveWolf_35 rfl ?_
    refine R_getI X (j := 0) lc_19 rfl inX3 (by decide) rfl rfl rfl wf_X9_92 dX9_driveWolf_36 ?_
    refine R_iconst X dX9_driveWolf_39 ?_
    refine R_isub X dX9_driveWolf_40 ?_
    obtain ⟨M5, eM5, hf⟩ := zlt_some hf
    refine R_put X (j := 0) lc_19 rfl inX3 tyX3_ok nmX3 (by decide) rfl rfl rfl wf_X9_92 rfl (by decide +kernel) (z_nI _) (z_fI _) dX9_driveWolf_41 ?_
    refine R_mem eM5 ?_
    refine R_aload_n X 0 dX9_driveWolf_44 rfl rfl ?_
    refine R_getR X (j := 0) 1 1 lc_0 rfl inX9 (by decide) rfl rfl (by decide) rfl rfl wf_X9_12 dX9_driveWolf_45 ?_
    refine R_getR X (j := 8) 18 19 lc_1 rfl inX7 (by decide) rfl rfl (by decide) rfl rfl wf_X9_88 dX9_driveWolf_48 ?_
    refine R_getI X (j := 0) lc_19 rfl inX3 (by decide) rfl rfl rfl wf_X9_92 dX9_driveWolf_51 ?_
    exact R_iret X hr hk0 dX9_driveWolf_54 hf
  · have hf := zelse hf c6
    refine R_bipush X dX9_driveWolf_14 (by decide +kernel) ?_
    exact R_iret X hr hk0 dX9_driveWolf_16 hf
theorem dX9_isKey_0 : decode cX9_isKey 0 = .ok (.iload_n 0, 1) := by decide +kernel
theorem dX9_isKey_1 : decode cX9_isKey 1 = .ok (.iconst 0, 1) := by decide +kernel
theorem dX9_isKey_2 : decode cX9_isKey 2 = .ok (.sipush 255, 3) := by decide +kernel
theorem dX9_isKey_5 : decode cX9_isKey 5 = .ok (.invokestatic 43, 3) := by decide +kernel
theorem dX9_isKey_8 : decode cX9_isKey 8 = .ok (.ireturn, 1) := by decide +kernel
set_option maxRecDepth 100000 in
set_option maxHeartbeats 4000000 in
theorem c_X9_isKey (l : Launch) (D : va_G) (cas : Nat → ClassId) (ad : Nat → Nat) (hi : zInj ad) {v0 : Int}  {r : Int} {M M' : Mem} (hf : f_X9_isKey v0 M = some (r, M')) : zMi l D cas ad yX9_isKey cX9_isKey 1 (some .boolean) 1 22 [.int (zI v0)] M r M' := by
  refine zbody (by decide) (Nat.le_of_ble_eq_true rfl) hi ?_
  intro p e s m args below meth c X hr hk0
  have X : zX p s m args c cX9_isKey "ShardTrails" 1 D cas ad (zA ad) := X
  unfold f_X9_isKey at hf
  refine (?_ : WW p l e (zrm 1 22) s m args below meth c D cas ad (zA ad) 1 0 0 (MQ below (zQi D cas ad r M') args s 0 0 (zA ad)) 0 [(0, .int (zI v0))] [] M)
  refine R_iload_n X 0 dX9_isKey_0 rfl rfl ?_
  refine R_iconst X dX9_isKey_1 ?_
  refine R_sipush X dX9_isKey_2 (by decide +kernel) ?_
  obtain ⟨r1, M2, hc3, hf⟩ := zbnd_some hf
  refine R_callSi X (av := [.int (zI v0), .int (zI 0), .int (zI 255)]) (rest := []) (c_X9_isWithin l D cas ad hi hc3) zy_X9_isWithin wm_X9_43 rfl rfl ⟨Nat.le_of_ble_eq_true rfl, Nat.le_of_ble_eq_true rfl⟩ ⟨Nat.le_refl _, Nat.le_refl _⟩ (Nat.le_of_ble_eq_true rfl) dX9_isKey_5 ?_
  obtain ⟨hq4, hf⟩ := zgrd hf
  exact R_zret X hq4 hr hk0 dX9_isKey_8 hf
theorem dX9_isReader_0 : decode cX9_isReader 0 = .ok (.iload_n 1, 1) := by decide +kernel
theorem dX9_isReader_1 : decode cX9_isReader 1 = .ok (.iconst 0, 1) := by decide +kernel
theorem dX9_isReader_2 : decode cX9_isReader 2 = .ok (.aload_n 0, 1) := by decide +kernel
theorem dX9_isReader_3 : decode cX9_isReader 3 = .ok (.getfield 12, 3) := by decide +kernel
theorem dX9_isReader_6 : decode cX9_isReader 6 = .ok (.getfield 99, 3) := by decide +kernel
theorem dX9_isReader_9 : decode cX9_isReader 9 = .ok (.getfield 103, 3) := by decide +kernel
theorem dX9_isReader_12 : decode cX9_isReader 12 = .ok (.iconst 1, 1) := by decide +kernel
theorem dX9_isReader_13 : decode cX9_isReader 13 = .ok (.isub, 1) := by decide +kernel
theorem dX9_isReader_14 : decode cX9_isReader 14 = .ok (.invokestatic 43, 3) := by decide +kernel
theorem dX9_isReader_17 : decode cX9_isReader 17 = .ok (.ireturn, 1) := by decide +kernel
set_option maxRecDepth 100000 in
set_option maxHeartbeats 4000000 in
theorem c_X9_isReader (l : Launch) (D : va_G) (cas : Nat → ClassId) (ad : Nat → Nat) (hi : zInj ad) {v1 : Int}  {r : Int} {M M' : Mem} (hf : f_X9_isReader v1 M = some (r, M')) : zMi l D cas ad yX9_isReader cX9_isReader 2 (some .boolean) 1 22 [.ref (ad 0), .int (zI v1)] M r M' := by
  refine zbody (by decide) (Nat.le_of_ble_eq_true rfl) hi ?_
  intro p e s m args below meth c X hr hk0
  have X : zX p s m args c cX9_isReader "ShardTrails" 2 D cas ad (zA ad) := X
  unfold f_X9_isReader at hf
  refine (?_ : WW p l e (zrm 1 22) s m args below meth c D cas ad (zA ad) 2 0 0 (MQ below (zQi D cas ad r M') args s 0 0 (zA ad)) 0 [(0, .ref (ad 0)), (1, .int (zI v1))] [] M)
  refine R_iload_n X 1 dX9_isReader_0 rfl rfl ?_
  refine R_iconst X dX9_isReader_1 ?_
  refine R_aload_n X 0 dX9_isReader_2 rfl rfl ?_
  refine R_getR X (j := 0) 1 1 lc_0 rfl inX9 (by decide) rfl rfl (by decide) rfl rfl wf_X9_12 dX9_isReader_3 ?_
  refine R_getR X (j := 9) 21 22 lc_1 rfl inX7 (by decide) rfl rfl (by decide) rfl rfl wf_X9_99 dX9_isReader_6 ?_
  refine R_getI X (j := 0) lc_22 rfl inX4 (by decide) rfl rfl rfl wf_X9_103 dX9_isReader_9 ?_
  refine R_iconst X dX9_isReader_12 ?_
  refine R_isub X dX9_isReader_13 ?_
  obtain ⟨r1, M2, hc3, hf⟩ := zbnd_some hf
  refine R_callSi X (av := [.int (zI v1), .int (zI 0), .int (zI ((M 22 0) - 1))]) (rest := []) (c_X9_isWithin l D cas ad hi hc3) zy_X9_isWithin wm_X9_43 rfl rfl ⟨Nat.le_of_ble_eq_true rfl, Nat.le_of_ble_eq_true rfl⟩ ⟨Nat.le_refl _, Nat.le_refl _⟩ (Nat.le_of_ble_eq_true rfl) dX9_isReader_14 ?_
  obtain ⟨hq4, hf⟩ := zgrd hf
  exact R_zret X hq4 hr hk0 dX9_isReader_17 hf
theorem dX9_isShard_0 : decode cX9_isShard 0 = .ok (.iload_n 0, 1) := by decide +kernel
theorem dX9_isShard_1 : decode cX9_isShard 1 = .ok (.iconst 0, 1) := by decide +kernel
theorem dX9_isShard_2 : decode cX9_isShard 2 = .ok (.bipush 15, 2) := by decide +kernel
theorem dX9_isShard_4 : decode cX9_isShard 4 = .ok (.invokestatic 43, 3) := by decide +kernel
theorem dX9_isShard_7 : decode cX9_isShard 7 = .ok (.ireturn, 1) := by decide +kernel
set_option maxRecDepth 100000 in
set_option maxHeartbeats 4000000 in
theorem c_X9_isShard (l : Launch) (D : va_G) (cas : Nat → ClassId) (ad : Nat → Nat) (hi : zInj ad) {v0 : Int}  {r : Int} {M M' : Mem} (hf : f_X9_isShard v0 M = some (r, M')) : zMi l D cas ad yX9_isShard cX9_isShard 1 (some .boolean) 1 22 [.int (zI v0)] M r M' := by
  refine zbody (by decide) (Nat.le_of_ble_eq_true rfl) hi ?_
  intro p e s m args below meth c X hr hk0
  have X : zX p s m args c cX9_isShard "ShardTrails" 1 D cas ad (zA ad) := X
  unfold f_X9_isShard at hf
  refine (?_ : WW p l e (zrm 1 22) s m args below meth c D cas ad (zA ad) 1 0 0 (MQ below (zQi D cas ad r M') args s 0 0 (zA ad)) 0 [(0, .int (zI v0))] [] M)
  refine R_iload_n X 0 dX9_isShard_0 rfl rfl ?_
  refine R_iconst X dX9_isShard_1 ?_
  refine R_bipush X dX9_isShard_2 (by decide +kernel) ?_
  obtain ⟨r1, M2, hc3, hf⟩ := zbnd_some hf
  refine R_callSi X (av := [.int (zI v0), .int (zI 0), .int (zI 15)]) (rest := []) (c_X9_isWithin l D cas ad hi hc3) zy_X9_isWithin wm_X9_43 rfl rfl ⟨Nat.le_of_ble_eq_true rfl, Nat.le_of_ble_eq_true rfl⟩ ⟨Nat.le_refl _, Nat.le_refl _⟩ (Nat.le_of_ble_eq_true rfl) dX9_isShard_4 ?_
  obtain ⟨hq4, hf⟩ := zgrd hf
  exact R_zret X hq4 hr hk0 dX9_isShard_7 hf
theorem dX9_keep_0 : decode cX9_keep 0 = .ok (.aload_n 0, 1) := by decide +kernel
theorem dX9_keep_1 : decode cX9_keep 1 = .ok (.getfield 19, 3) := by decide +kernel
theorem dX9_keep_4 : decode cX9_keep 4 = .ok (.aload_n 0, 1) := by decide +kernel
theorem dX9_keep_5 : decode cX9_keep 5 = .ok (.getfield 12, 3) := by decide +kernel
theorem dX9_keep_8 : decode cX9_keep 8 = .ok (.invokevirtual 188, 3) := by decide +kernel
theorem dX9_keep_11 : decode cX9_keep 11 = .ok (.aload_n 0, 1) := by decide +kernel
theorem dX9_keep_12 : decode cX9_keep 12 = .ok (.iconst 1, 1) := by decide +kernel
theorem dX9_keep_13 : decode cX9_keep 13 = .ok (.putfield 191, 3) := by decide +kernel
theorem dX9_keep_16 : decode cX9_keep 16 = .ok (.aload_n 0, 1) := by decide +kernel
theorem dX9_keep_17 : decode cX9_keep 17 = .ok (.getfield 12, 3) := by decide +kernel
theorem dX9_keep_20 : decode cX9_keep 20 = .ok (.getfield 121, 3) := by decide +kernel
theorem dX9_keep_23 : decode cX9_keep 23 = .ok (.ireturn, 1) := by decide +kernel
set_option maxRecDepth 100000 in
set_option maxHeartbeats 4000000 in
theorem c_X9_keep (l : Launch) (D : va_G) (cas : Nat → ClassId) (ad : Nat → Nat) (hi : zInj ad)   {r : Int} {M M' : Mem} (hf : f_X9_keep M = some (r, M')) : zMi l D cas ad yX9_keep cX9_keep 1 (some .int) 4 90 [.ref (ad 0)] M r M' := by
  refine zbody (by decide) (Nat.le_of_ble_eq_true rfl) hi ?_
  intro p e s m args below meth c X hr hk0
  have X : zX p s m args c cX9_keep "ShardTrails" 1 D cas ad (zA ad) := X
  unfold f_X9_keep at hf
  refine (?_ : WW p l e (zrm 4 90) s m args below meth c D cas ad (zA ad) 1 0 0 (MQ below (zQi D cas ad r M') args s 0 0 (zA ad)) 0 [(0, .ref (ad 0))] [] M)
  refine R_aload_n X 0 dX9_keep_0 rfl rfl ?_
  refine R_getR X (j := 2) 59 59 lc_0 rfl inX9 (by decide) rfl rfl (by decide) rfl rfl wf_X9_19 dX9_keep_1 ?_
  refine R_aload_n X 0 dX9_keep_4 rfl rfl ?_
  refine R_getR X (j := 0) 1 1 lc_0 rfl inX9 (by decide) rfl rfl (by decide) rfl rfl wf_X9_12 dX9_keep_5 ?_
  obtain ⟨r1, M2, hc3, hf⟩ := zbnd_some hf
  refine R_callVv X (av := [.ref (ad 1)]) (rest := []) (c_X7_copyFrom l D cas ad hi lc_59 lc_1 hc3) zy_X7_copyFrom lc_59 rfl rfl wm_X9_188 rfl rfl ⟨Nat.le_of_ble_eq_true rfl, Nat.le_of_ble_eq_true rfl⟩ ⟨Nat.le_refl _, Nat.le_refl _⟩ (Nat.le_of_ble_eq_true rfl) dX9_keep_8 ?_
  refine R_aload_n X 0 dX9_keep_11 rfl rfl ?_
  refine R_iconst X dX9_keep_12 ?_
  obtain ⟨M4, eM4, hf⟩ := zlt_some hf
  refine R_put X (j := 6) lc_0 rfl inX9 tyX9_ok nmX9 (by decide) rfl rfl rfl wf_X9_191 rfl (by decide +kernel) (z_nZ (Or.inr rfl)) (z_fZ (Or.inr rfl)) dX9_keep_13 ?_
  refine R_mem eM4 ?_
  refine R_aload_n X 0 dX9_keep_16 rfl rfl ?_
  refine R_getR X (j := 0) 1 1 lc_0 rfl inX9 (by decide) rfl rfl (by decide) rfl rfl wf_X9_12 dX9_keep_17 ?_
  refine R_getI X (j := 0) lc_1 rfl inX7 (by decide) rfl rfl rfl wf_X9_121 dX9_keep_20 ?_
  exact R_iret X hr hk0 dX9_keep_23 hf
theorem dX2_hasRoom_0 : decode cX2_hasRoom 0 = .ok (.aload_n 0, 1) := by decide +kernel
theorem dX2_hasRoom_1 : decode cX2_hasRoom 1 = .ok (.getfield 18, 3) := by decide +kernel
theorem dX2_hasRoom_4 : decode cX2_hasRoom 4 = .ok (.iload_n 1, 1) := by decide +kernel
theorem dX2_hasRoom_5 : decode cX2_hasRoom 5 = .ok (.iaload, 1) := by decide +kernel
theorem dX2_hasRoom_6 : decode cX2_hasRoom 6 = .ok (.aload_n 0, 1) := by decide +kernel
theorem dX2_hasRoom_7 : decode cX2_hasRoom 7 = .ok (.getfield 15, 3) := by decide +kernel
theorem dX2_hasRoom_10 : decode cX2_hasRoom 10 = .ok (.iload_n 1, 1) := by decide +kernel
theorem dX2_hasRoom_11 : decode cX2_hasRoom 11 = .ok (.iaload, 1) := by decide +kernel
theorem dX2_hasRoom_12 : decode cX2_hasRoom 12 = .ok (.if_icmp .ge 7, 3) := by decide +kernel
theorem dX2_hasRoom_15 : decode cX2_hasRoom 15 = .ok (.iconst 1, 1) := by decide +kernel
theorem dX2_hasRoom_16 : decode cX2_hasRoom 16 = .ok (.goto 4, 3) := by decide +kernel
theorem dX2_hasRoom_19 : decode cX2_hasRoom 19 = .ok (.iconst 0, 1) := by decide +kernel
theorem dX2_hasRoom_20 : decode cX2_hasRoom 20 = .ok (.ireturn, 1) := by decide +kernel
set_option maxRecDepth 100000 in
set_option maxHeartbeats 4000000 in
theorem c_X2_hasRoom (l : Launch) (D : va_G) (cas : Nat → ClassId) (ad : Nat → Nat) (hi : zInj ad) {k : Nat} {v1 : Int} (hk : k < zN ∧ lay k = (0, 2)) {r : Int} {M M' : Mem} (hf : f_X2_hasRoom k v1 M = some (r, M')) : zMi l D cas ad yX2_hasRoom cX2_hasRoom 2 (some .boolean) 0 0 [.ref (ad k), .int (zI v1)] M r M' := by
  refine zbody (by decide) (Nat.le_of_ble_eq_true rfl) hi ?_
  intro p e s m args below meth c X hr hk0
  have X : zX p s m args c cX2_hasRoom "ShardTrails$Land" 2 D cas ad (zA ad) := X
  have hB20 : ∀ (t1 : Int) (M : Mem), f_X2_hasRoom_b20 k t1 M = some (r, M') → WW p l e (zrm 0 0) s m args below meth c D cas ad (zA ad) 2 0 0 (MQ below (zQi D cas ad r M') args s 0 0 (zA ad)) 20 [] [.int (zI t1)] M := by
    intro t1 M hf
    unfold f_X2_hasRoom_b20 at hf
    obtain ⟨hq7, hf⟩ := zgrd hf
    exact R_zret X hq7 hr hk0 dX2_hasRoom_20 hf
  unfold f_X2_hasRoom at hf
  refine (?_ : WW p l e (zrm 0 0) s m args below meth c D cas ad (zA ad) 2 0 0 (MQ below (zQi D cas ad r M') args s 0 0 (zA ad)) 0 [(0, .ref (ad k)), (1, .int (zI v1))] [] M)
  refine R_aload_n X 0 dX2_hasRoom_0 rfl rfl ?_
  have hp1 : k + 3 < zN ∧ lay (k + 3) = (1, 8) := pt_2_3 _ hk.1 hk.2
  refine R_getR X (j := 3) 3 (k + 3) hk rfl inX2 (by decide) rfl rfl (by decide) rfl rfl wf_X2_18 dX2_hasRoom_1 ?_
  refine R_iload_n X 1 dX2_hasRoom_4 rfl rfl ?_
  obtain ⟨hq2, hf⟩ := zgrd hf
  refine R_iald X hp1 hq2 dX2_hasRoom_5 ?_
  refine R_aload_n X 0 dX2_hasRoom_6 rfl rfl ?_
  have hp3 : k + 2 < zN ∧ lay (k + 2) = (1, 8) := pt_2_2 _ hk.1 hk.2
  refine R_getR X (j := 2) 2 (k + 2) hk rfl inX2 (by decide) rfl rfl (by decide) rfl rfl wf_X2_15 dX2_hasRoom_7 ?_
  refine R_iload_n X 1 dX2_hasRoom_10 rfl rfl ?_
  refine R_iald X hp3 hq2 dX2_hasRoom_11 ?_
  obtain ⟨hq4, hf⟩ := zgrd hf
  obtain ⟨hq5, hf⟩ := zgrd hf
  refine R_icmp_ge X 19 ⟨hq4, hq5⟩ dX2_hasRoom_12 (by decide) (fun c6 => ?_) (fun c6 => ?_)
  · have hf := zthen hf c6
    refine R_iconst X dX2_hasRoom_19 ?_
    exact R_sub [] rfl (hB20 0 M hf)
  · have hf := zelse hf c6
    refine R_iconst X dX2_hasRoom_15 ?_
    refine R_goto X 20 dX2_hasRoom_16 (by decide) ?_
    exact R_sub [] rfl (hB20 1 M hf)
theorem dX8_leave_0 : decode cX8_leave 0 = .ok (.aload_n 0, 1) := by decide +kernel
theorem dX8_leave_1 : decode cX8_leave 1 = .ok (.getfield 9, 3) := by decide +kernel
theorem dX8_leave_4 : decode cX8_leave 4 = .ok (.iload_n 2, 1) := by decide +kernel
theorem dX8_leave_5 : decode cX8_leave 5 = .ok (.iload_n 1, 1) := by decide +kernel
theorem dX8_leave_6 : decode cX8_leave 6 = .ok (.invokestatic 28, 3) := by decide +kernel
theorem dX8_leave_9 : decode cX8_leave 9 = .ok (.iload_n 3, 1) := by decide +kernel
theorem dX8_leave_10 : decode cX8_leave 10 = .ok (.iastore, 1) := by decide +kernel
theorem dX8_leave_11 : decode cX8_leave 11 = .ok (.aload_n 0, 1) := by decide +kernel
theorem dX8_leave_12 : decode cX8_leave 12 = .ok (.getfield 15, 3) := by decide +kernel
theorem dX8_leave_15 : decode cX8_leave 15 = .ok (.iload_n 2, 1) := by decide +kernel
theorem dX8_leave_16 : decode cX8_leave 16 = .ok (.iload_n 1, 1) := by decide +kernel
theorem dX8_leave_17 : decode cX8_leave 17 = .ok (.invokestatic 28, 3) := by decide +kernel
theorem dX8_leave_20 : decode cX8_leave 20 = .ok (.iload 4, 2) := by decide +kernel
theorem dX8_leave_22 : decode cX8_leave 22 = .ok (.iastore, 1) := by decide +kernel
theorem dX8_leave_23 : decode cX8_leave 23 = .ok (.aload_n 0, 1) := by decide +kernel
theorem dX8_leave_24 : decode cX8_leave 24 = .ok (.getfield 9, 3) := by decide +kernel
theorem dX8_leave_27 : decode cX8_leave 27 = .ok (.iload_n 3, 1) := by decide +kernel
theorem dX8_leave_28 : decode cX8_leave 28 = .ok (.iload_n 1, 1) := by decide +kernel
theorem dX8_leave_29 : decode cX8_leave 29 = .ok (.invokestatic 28, 3) := by decide +kernel
theorem dX8_leave_32 : decode cX8_leave 32 = .ok (.bipush (-5), 2) := by decide +kernel
theorem dX8_leave_34 : decode cX8_leave 34 = .ok (.iastore, 1) := by decide +kernel
theorem dX8_leave_35 : decode cX8_leave 35 = .ok (.return_, 1) := by decide +kernel
set_option maxRecDepth 100000 in
set_option maxHeartbeats 4000000 in
theorem c_X8_leave (l : Launch) (D : va_G) (cas : Nat → ClassId) (ad : Nat → Nat) (hi : zInj ad) {k : Nat} {v1 : Int} {v2 : Int} {v3 : Int} {v4 : Int} (hk : k < zN ∧ lay k = (0, 8)) {r : Int} {M M' : Mem} (hf : f_X8_leave k v1 v2 v3 v4 M = some (r, M')) : zMv l D cas ad yX8_leave cX8_leave 5 1 21 [.ref (ad k), .int (zI v1), .int (zI v2), .int (zI v3), .int (zI v4)] M M' := by
  refine zbody (by decide) (Nat.le_of_ble_eq_true rfl) hi ?_
  intro p e s m args below meth c X hr hk0
  have X : zX p s m args c cX8_leave "ShardTrails$Tracks" 5 D cas ad (zA ad) := X
  unfold f_X8_leave at hf
  refine (?_ : WW p l e (zrm 1 21) s m args below meth c D cas ad (zA ad) 5 0 0 (MQ below (zQv D cas ad M') args s 0 0 (zA ad)) 0 [(0, .ref (ad k)), (1, .int (zI v1)), (2, .int (zI v2)), (3, .int (zI v3)), (4, .int (zI v4))] [] M)
  refine R_aload_n X 0 dX8_leave_0 rfl rfl ?_
  have hp1 : k + 1 < zN ∧ lay (k + 1) = (1, 128) := pt_8_0 _ hk.1 hk.2
  refine R_getR X (j := 0) 1 (k + 1) hk rfl inX8 (by decide) rfl rfl (by decide) rfl rfl wf_X8_9 dX8_leave_1 ?_
  refine R_iload_n X 2 dX8_leave_4 rfl rfl ?_
  refine R_iload_n X 1 dX8_leave_5 rfl rfl ?_
  obtain ⟨r2, M3, hc4, hf⟩ := zbnd_some hf
  refine R_callNi X (av := [.int (zI v2), .int (zI v1)]) (rest := [.ref (ad (k + 1))]) (c_X9_cell l D cas ad hi hc4) zy_X9_cell wn_X8_28 rfl rfl ⟨Nat.le_of_ble_eq_true rfl, Nat.le_of_ble_eq_true rfl⟩ ⟨Nat.le_refl _, Nat.le_refl _⟩ (Nat.le_of_ble_eq_true rfl) dX8_leave_6 ?_
  refine R_iload_n X 3 dX8_leave_9 rfl rfl ?_
  obtain ⟨hq5, hf⟩ := zgrd hf
  obtain ⟨M6, eM6, hf⟩ := zlt_some hf
  refine R_iast X hp1 hq5 dX8_leave_10 ?_
  refine R_mem eM6 ?_
  refine R_aload_n X 0 dX8_leave_11 rfl rfl ?_
  have hp7 : k + 2 < zN ∧ lay (k + 2) = (1, 128) := pt_8_1 _ hk.1 hk.2
  refine R_getR X (j := 1) 2 (k + 2) hk rfl inX8 (by decide) rfl rfl (by decide) rfl rfl wf_X8_15 dX8_leave_12 ?_
  refine R_iload_n X 2 dX8_leave_15 rfl rfl ?_
  refine R_iload_n X 1 dX8_leave_16 rfl rfl ?_
  obtain ⟨r8, M9, hc10, hf⟩ := zbnd_some hf
  refine R_callNi X (av := [.int (zI v2), .int (zI v1)]) (rest := [.ref (ad (k + 2))]) (c_X9_cell l D cas ad hi hc10) zy_X9_cell wn_X8_28 rfl rfl ⟨Nat.le_of_ble_eq_true rfl, Nat.le_of_ble_eq_true rfl⟩ ⟨Nat.le_refl _, Nat.le_refl _⟩ (Nat.le_of_ble_eq_true rfl) dX8_leave_17 ?_
  refine R_iload X 4 dX8_leave_20 rfl ?_
  obtain ⟨hq11, hf⟩ := zgrd hf
  obtain ⟨M12, eM12, hf⟩ := zlt_some hf
  refine R_iast X hp7 hq11 dX8_leave_22 ?_
  refine R_mem eM12 ?_
  refine R_aload_n X 0 dX8_leave_23 rfl rfl ?_
  refine R_getR X (j := 0) 1 (k + 1) hk rfl inX8 (by decide) rfl rfl (by decide) rfl rfl wf_X8_9 dX8_leave_24 ?_
  refine R_iload_n X 3 dX8_leave_27 rfl rfl ?_
  refine R_iload_n X 1 dX8_leave_28 rfl rfl ?_
  obtain ⟨r13, M14, hc15, hf⟩ := zbnd_some hf
  refine R_callNi X (av := [.int (zI v3), .int (zI v1)]) (rest := [.ref (ad (k + 1))]) (c_X9_cell l D cas ad hi hc15) zy_X9_cell wn_X8_28 rfl rfl ⟨Nat.le_of_ble_eq_true rfl, Nat.le_of_ble_eq_true rfl⟩ ⟨Nat.le_refl _, Nat.le_refl _⟩ (Nat.le_of_ble_eq_true rfl) dX8_leave_29 ?_
  refine R_bipush X dX8_leave_32 (by decide +kernel) ?_
  obtain ⟨hq16, hf⟩ := zgrd hf
  obtain ⟨M17, eM17, hf⟩ := zlt_some hf
  refine R_iast X hp1 hq16 dX8_leave_34 ?_
  refine R_mem eM17 ?_
  exact R_vret X hr hk0 dX8_leave_35 hf
theorem dX7_drive_0 : decode cX7_drive 0 = .ok (.aload_n 0, 1) := by decide +kernel
theorem dX7_drive_1 : decode cX7_drive 1 = .ok (.getfield 46, 3) := by decide +kernel
theorem dX7_drive_4 : decode cX7_drive 4 = .ok (.getfield 149, 3) := by decide +kernel
theorem dX7_drive_7 : decode cX7_drive 7 = .ok (.iload_n 1, 1) := by decide +kernel
theorem dX7_drive_8 : decode cX7_drive 8 = .ok (.iaload, 1) := by decide +kernel
theorem dX7_drive_9 : decode cX7_drive 9 = .ok (.istore_n 3, 1) := by decide +kernel
theorem dX7_drive_10 : decode cX7_drive 10 = .ok (.aload_n 0, 1) := by decide +kernel
theorem dX7_drive_11 : decode cX7_drive 11 = .ok (.getfield 39, 3) := by decide +kernel
theorem dX7_drive_14 : decode cX7_drive 14 = .ok (.iload_n 1, 1) := by decide +kernel
theorem dX7_drive_15 : decode cX7_drive 15 = .ok (.iload_n 3, 1) := by decide +kernel
theorem dX7_drive_16 : decode cX7_drive 16 = .ok (.iload_n 2, 1) := by decide +kernel
theorem dX7_drive_17 : decode cX7_drive 17 = .ok (.aload_n 0, 1) := by decide +kernel
theorem dX7_drive_18 : decode cX7_drive 18 = .ok (.getfield 67, 3) := by decide +kernel
theorem dX7_drive_21 : decode cX7_drive 21 = .ok (.invokevirtual 159, 3) := by decide +kernel
theorem dX7_drive_24 : decode cX7_drive 24 = .ok (.aload_n 0, 1) := by decide +kernel
theorem dX7_drive_25 : decode cX7_drive 25 = .ok (.getfield 46, 3) := by decide +kernel
theorem dX7_drive_28 : decode cX7_drive 28 = .ok (.getfield 149, 3) := by decide +kernel
theorem dX7_drive_31 : decode cX7_drive 31 = .ok (.iload_n 1, 1) := by decide +kernel
theorem dX7_drive_32 : decode cX7_drive 32 = .ok (.iload_n 2, 1) := by decide +kernel
theorem dX7_drive_33 : decode cX7_drive 33 = .ok (.iastore, 1) := by decide +kernel
theorem dX7_drive_34 : decode cX7_drive 34 = .ok (.aload_n 0, 1) := by decide +kernel
theorem dX7_drive_35 : decode cX7_drive 35 = .ok (.getfield 46, 3) := by decide +kernel
theorem dX7_drive_38 : decode cX7_drive 38 = .ok (.getfield 163, 3) := by decide +kernel
theorem dX7_drive_41 : decode cX7_drive 41 = .ok (.iload_n 1, 1) := by decide +kernel
theorem dX7_drive_42 : decode cX7_drive 42 = .ok (.dup2, 1) := by decide +kernel
theorem dX7_drive_43 : decode cX7_drive 43 = .ok (.iaload, 1) := by decide +kernel
theorem dX7_drive_44 : decode cX7_drive 44 = .ok (.iconst 1, 1) := by decide +kernel
theorem dX7_drive_45 : decode cX7_drive 45 = .ok (.iadd, 1) := by decide +kernel
theorem dX7_drive_46 : decode cX7_drive 46 = .ok (.iastore, 1) := by decide +kernel
theorem dX7_drive_47 : decode cX7_drive 47 = .ok (.aload_n 0, 1) := by decide +kernel
theorem dX7_drive_48 : decode cX7_drive 48 = .ok (.getfield 32, 3) := by decide +kernel
theorem dX7_drive_51 : decode cX7_drive 51 = .ok (.getfield 166, 3) := by decide +kernel
theorem dX7_drive_54 : decode cX7_drive 54 = .ok (.iload_n 3, 1) := by decide +kernel
theorem dX7_drive_55 : decode cX7_drive 55 = .ok (.dup2, 1) := by decide +kernel
theorem dX7_drive_56 : decode cX7_drive 56 = .ok (.iaload, 1) := by decide +kernel
theorem dX7_drive_57 : decode cX7_drive 57 = .ok (.iconst 1, 1) := by decide +kernel
theorem dX7_drive_58 : decode cX7_drive 58 = .ok (.isub, 1) := by decide +kernel
theorem dX7_drive_59 : decode cX7_drive 59 = .ok (.iastore, 1) := by decide +kernel
theorem dX7_drive_60 : decode cX7_drive 60 = .ok (.aload_n 0, 1) := by decide +kernel
theorem dX7_drive_61 : decode cX7_drive 61 = .ok (.getfield 32, 3) := by decide +kernel
theorem dX7_drive_64 : decode cX7_drive 64 = .ok (.getfield 166, 3) := by decide +kernel
theorem dX7_drive_67 : decode cX7_drive 67 = .ok (.iload_n 2, 1) := by decide +kernel
theorem dX7_drive_68 : decode cX7_drive 68 = .ok (.dup2, 1) := by decide +kernel
theorem dX7_drive_69 : decode cX7_drive 69 = .ok (.iaload, 1) := by decide +kernel
theorem dX7_drive_70 : decode cX7_drive 70 = .ok (.iconst 1, 1) := by decide +kernel
theorem dX7_drive_71 : decode cX7_drive 71 = .ok (.iadd, 1) := by decide +kernel
theorem dX7_drive_72 : decode cX7_drive 72 = .ok (.iastore, 1) := by decide +kernel
theorem dX7_drive_73 : decode cX7_drive 73 = .ok (.return_, 1) := by decide +kernel
set_option maxRecDepth 100000 in
set_option maxHeartbeats 4000000 in
theorem c_X7_drive (l : Launch) (D : va_G) (cas : Nat → ClassId) (ad : Nat → Nat) (hi : zInj ad) {k : Nat} {v1 : Int} {v2 : Int} (hk : k < zN ∧ lay k = (0, 7)) {r : Int} {M M' : Mem} (hf : f_X7_drive k v1 v2 M = some (r, M')) : zMv l D cas ad yX7_drive cX7_drive 4 2 45 [.ref (ad k), .int (zI v1), .int (zI v2)] M M' := by
  refine zbody (by decide) (Nat.le_of_ble_eq_true rfl) hi ?_
  intro p e s m args below meth c X hr hk0
  have X : zX p s m args c cX7_drive "ShardTrails$State" 4 D cas ad (zA ad) := X
  unfold f_X7_drive at hf
  refine (?_ : WW p l e (zrm 2 45) s m args below meth c D cas ad (zA ad) 4 0 0 (MQ below (zQv D cas ad M') args s 0 0 (zA ad)) 0 [(0, .ref (ad k)), (1, .int (zI v1)), (2, .int (zI v2))] [] M)
  refine R_aload_n X 0 dX7_drive_0 rfl rfl ?_
  have hp1 : k + 13 < zN ∧ lay (k + 13) = (0, 0) := pt_7_7 _ hk.1 hk.2
  refine R_getR X (j := 7) 13 (k + 13) hk rfl inX7 (by decide) rfl rfl (by decide) rfl rfl wf_X7_46 dX7_drive_1 ?_
  have hp2 : k + 14 < zN ∧ lay (k + 14) = (1, 16) := pt_0_0 _ hp1.1 hp1.2
  refine R_getR X (j := 0) 1 (k + 14) hp1 rfl inX0 (by decide) rfl rfl (by decide) rfl rfl wf_X7_149 dX7_drive_4 ?_
  refine R_iload_n X 1 dX7_drive_7 rfl rfl ?_
  obtain ⟨hq3, hf⟩ := zgrd hf
  refine R_iald X hp2 hq3 dX7_drive_8 ?_
  obtain ⟨x4, ex4, hf⟩ := zlt_some hf
  refine R_istore_nX X (lv' := [(3, .int (zI x4)), (0, .ref (ad k)), (1, .int (zI v1)), (2, .int (zI v2))]) ex4 dX7_drive_9 rfl (by decide) rfl ?_
  refine R_aload_n X 1 dX7_drive_10 rfl rfl ?_
  have hp5 : k + 10 < zN ∧ lay (k + 10) = (0, 8) := pt_7_6 _ hk.1 hk.2
  refine R_getR X (j := 6) 10 (k + 10) hk rfl inX7 (by decide) rfl rfl (by decide) rfl rfl wf_X7_39 dX7_drive_11 ?_
  refine R_iload_n X 2 dX7_drive_14 rfl rfl ?_
  refine R_iload_n X 0 dX7_drive_15 rfl rfl ?_
  refine R_iload_n X 3 dX7_drive_16 rfl rfl ?_
  refine R_aload_n X 1 dX7_drive_17 rfl rfl ?_
  refine R_getI X (j := 0) hk rfl inX7 (by decide) rfl rfl rfl wf_X7_67 dX7_drive_18 ?_
  obtain ⟨r6, M7, hc8, hf⟩ := zbnd_some hf
  refine R_callVv X (av := [.int (zI v1), .int (zI x4), .int (zI v2), .int (zI (M k 0))]) (rest := []) (c_X8_leave l D cas ad hi hp5 hc8) zy_X8_leave hp5 rfl rfl wm_X7_159 rfl rfl ⟨Nat.le_of_ble_eq_true rfl, Nat.le_of_ble_eq_true rfl⟩ ⟨Nat.le_refl _, Nat.le_refl _⟩ (Nat.le_of_ble_eq_true rfl) dX7_drive_21 ?_
  refine R_aload_n X 1 dX7_drive_24 rfl rfl ?_
  refine R_getR X (j := 7) 13 (k + 13) hk rfl inX7 (by decide) rfl rfl (by decide) rfl rfl wf_X7_46 dX7_drive_25 ?_
  refine R_getR X (j := 0) 1 (k + 14) hp1 rfl inX0 (by decide) rfl rfl (by decide) rfl rfl wf_X7_149 dX7_drive_28 ?_
  refine R_iload_n X 2 dX7_drive_31 rfl rfl ?_
  refine R_iload_n X 3 dX7_drive_32 rfl rfl ?_
  obtain ⟨M9, eM9, hf⟩ := zlt_some hf
  refine R_iast X hp2 hq3 dX7_drive_33 ?_
  refine R_mem eM9 ?_
  refine R_aload_n X 1 dX7_drive_34 rfl rfl ?_
  refine R_getR X (j := 7) 13 (k + 13) hk rfl inX7 (by decide) rfl rfl (by decide) rfl rfl wf_X7_46 dX7_drive_35 ?_
  have hp10 : k + 16 < zN ∧ lay (k + 16) = (1, 16) := pt_0_2 _ hp1.1 hp1.2
  refine R_getR X (j := 2) 3 (k + 16) hp1 rfl inX0 (by decide) rfl rfl (by decide) rfl rfl wf_X7_163 dX7_drive_38 ?_
  refine R_iload_n X 2 dX7_drive_41 rfl rfl ?_
  refine R_dup2 X dX7_drive_42 rfl rfl ?_
  refine R_iald X hp10 hq3 dX7_drive_43 ?_
  refine R_iconst X dX7_drive_44 ?_
  refine R_iadd X dX7_drive_45 ?_
  obtain ⟨M11, eM11, hf⟩ := zlt_some hf
  refine R_iast X hp10 hq3 dX7_drive_46 ?_
  refine R_mem eM11 ?_
  refine R_aload_n X 1 dX7_drive_47 rfl rfl ?_
  have hp12 : k + 3 < zN ∧ lay (k + 3) = (0, 2) := pt_7_5 _ hk.1 hk.2
  refine R_getR X (j := 5) 3 (k + 3) hk rfl inX7 (by decide) rfl rfl (by decide) rfl rfl wf_X7_32 dX7_drive_48 ?_
  have hp13 : k + 6 < zN ∧ lay (k + 6) = (1, 8) := pt_2_3 _ hp12.1 hp12.2
  refine R_getR X (j := 3) 3 (k + 6) hp12 rfl inX2 (by decide) rfl rfl (by decide) rfl rfl wf_X7_166 dX7_drive_51 ?_
  refine R_iload_n X 0 dX7_drive_54 rfl rfl ?_
  refine R_dup2 X dX7_drive_55 rfl rfl ?_
  obtain ⟨hq14, hf⟩ := zgrd hf
  refine R_iald X hp13 hq14 dX7_drive_56 ?_
  refine R_iconst X dX7_drive_57 ?_
  refine R_isub X dX7_drive_58 ?_
  obtain ⟨M15, eM15, hf⟩ := zlt_some hf
  refine R_iast X hp13 hq14 dX7_drive_59 ?_
  refine R_mem eM15 ?_
  refine R_aload_n X 1 dX7_drive_60 rfl rfl ?_
  refine R_getR X (j := 5) 3 (k + 3) hk rfl inX7 (by decide) rfl rfl (by decide) rfl rfl wf_X7_32 dX7_drive_61 ?_
  refine R_getR X (j := 3) 3 (k + 6) hp12 rfl inX2 (by decide) rfl rfl (by decide) rfl rfl wf_X7_166 dX7_drive_64 ?_
  refine R_iload_n X 3 dX7_drive_67 rfl rfl ?_
  refine R_dup2 X dX7_drive_68 rfl rfl ?_
  obtain ⟨hq16, hf⟩ := zgrd hf
  refine R_iald X hp13 hq16 dX7_drive_69 ?_
  refine R_iconst X dX7_drive_70 ?_
  refine R_iadd X dX7_drive_71 ?_
  obtain ⟨M17, eM17, hf⟩ := zlt_some hf
  refine R_iast X hp13 hq16 dX7_drive_72 ?_
  refine R_mem eM17 ?_
  exact R_vret X hr hk0 dX7_drive_73 hf
theorem dX9_move_0 : decode cX9_move 0 = .ok (.iload_n 1, 1) := by decide +kernel
theorem dX9_move_1 : decode cX9_move 1 = .ok (.invokestatic 127, 3) := by decide +kernel
theorem dX9_move_4 : decode cX9_move 4 = .ok (.ifCond .eq 11, 3) := by decide +kernel
theorem dX9_move_7 : decode cX9_move 7 = .ok (.aload_n 0, 1) := by decide +kernel
theorem dX9_move_8 : decode cX9_move 8 = .ok (.iload_n 2, 1) := by decide +kernel
theorem dX9_move_9 : decode cX9_move 9 = .ok (.invokevirtual 65, 3) := by decide +kernel
theorem dX9_move_12 : decode cX9_move 12 = .ok (.ifCond .ne 5, 3) := by decide +kernel
theorem dX9_move_15 : decode cX9_move 15 = .ok (.iconst (-1), 1) := by decide +kernel
theorem dX9_move_16 : decode cX9_move 16 = .ok (.ireturn, 1) := by decide +kernel
theorem dX9_move_17 : decode cX9_move 17 = .ok (.aload_n 0, 1) := by decide +kernel
theorem dX9_move_18 : decode cX9_move 18 = .ok (.getfield 12, 3) := by decide +kernel
theorem dX9_move_21 : decode cX9_move 21 = .ok (.getfield 130, 3) := by decide +kernel
theorem dX9_move_24 : decode cX9_move 24 = .ok (.getfield 134, 3) := by decide +kernel
theorem dX9_move_27 : decode cX9_move 27 = .ok (.iload_n 1, 1) := by decide +kernel
theorem dX9_move_28 : decode cX9_move 28 = .ok (.iaload, 1) := by decide +kernel
theorem dX9_move_29 : decode cX9_move 29 = .ok (.istore_n 3, 1) := by decide +kernel
theorem dX9_move_30 : decode cX9_move 30 = .ok (.iload_n 3, 1) := by decide +kernel
theorem dX9_move_31 : decode cX9_move 31 = .ok (.iload_n 2, 1) := by decide +kernel
theorem dX9_move_32 : decode cX9_move 32 = .ok (.if_icmp .ne 6, 3) := by decide +kernel
theorem dX9_move_35 : decode cX9_move 35 = .ok (.bipush (-5), 2) := by decide +kernel
theorem dX9_move_37 : decode cX9_move 37 = .ok (.ireturn, 1) := by decide +kernel
theorem dX9_move_38 : decode cX9_move 38 = .ok (.aload_n 0, 1) := by decide +kernel
theorem dX9_move_39 : decode cX9_move 39 = .ok (.getfield 12, 3) := by decide +kernel
theorem dX9_move_42 : decode cX9_move 42 = .ok (.getfield 47, 3) := by decide +kernel
theorem dX9_move_45 : decode cX9_move 45 = .ok (.iload_n 2, 1) := by decide +kernel
theorem dX9_move_46 : decode cX9_move 46 = .ok (.invokevirtual 139, 3) := by decide +kernel
theorem dX9_move_49 : decode cX9_move 49 = .ok (.ifCond .ne 6, 3) := by decide +kernel
theorem dX9_move_52 : decode cX9_move 52 = .ok (.bipush (-3), 2) := by decide +kernel
theorem dX9_move_54 : decode cX9_move 54 = .ok (.ireturn, 1) := by decide +kernel
theorem dX9_move_55 : decode cX9_move 55 = .ok (.aload_n 0, 1) := by decide +kernel
theorem dX9_move_56 : decode cX9_move 56 = .ok (.getfield 25, 3) := by decide +kernel
theorem dX9_move_59 : decode cX9_move 59 = .ok (.aload_n 0, 1) := by decide +kernel
theorem dX9_move_60 : decode cX9_move 60 = .ok (.getfield 12, 3) := by decide +kernel
theorem dX9_move_63 : decode cX9_move 63 = .ok (.invokevirtual 57, 3) := by decide +kernel
theorem dX9_move_66 : decode cX9_move 66 = .ok (.aload_n 0, 1) := by decide +kernel
theorem dX9_move_67 : decode cX9_move 67 = .ok (.getfield 12, 3) := by decide +kernel
theorem dX9_move_70 : decode cX9_move 70 = .ok (.iload_n 1, 1) := by decide +kernel
theorem dX9_move_71 : decode cX9_move 71 = .ok (.iload_n 2, 1) := by decide +kernel
theorem dX9_move_72 : decode cX9_move 72 = .ok (.invokevirtual 142, 3) := by decide +kernel
theorem dX9_move_75 : decode cX9_move 75 = .ok (.iload_n 3, 1) := by decide +kernel
theorem dX9_move_76 : decode cX9_move 76 = .ok (.ireturn, 1) := by decide +kernel
set_option maxRecDepth 100000 in
set_option maxHeartbeats 4000000 in
theorem c_X9_move (l : Launch) (D : va_G) (cas : Nat → ClassId) (ad : Nat → Nat) (hi : zInj ad) {v1 : Int} {v2 : Int}  {r : Int} {M M' : Mem} (hf : f_X9_move v1 v2 M = some (r, M')) : zMi l D cas ad yX9_move cX9_move 4 (some .int) 5 111 [.ref (ad 0), .int (zI v1), .int (zI v2)] M r M' := by
  refine zbody (by decide) (Nat.le_of_ble_eq_true rfl) hi ?_
  intro p e s m args below meth c X hr hk0
  have X : zX p s m args c cX9_move "ShardTrails" 4 D cas ad (zA ad) := X
  have hB15 : ∀ (M : Mem), f_X9_move_b15 M = some (r, M') → WW p l e (zrm 5 111) s m args below meth c D cas ad (zA ad) 4 0 0 (MQ below (zQi D cas ad r M') args s 0 0 (zA ad)) 15 [] [] M := by
    intro M hf
    unfold f_X9_move_b15 at hf
    refine R_iconst X dX9_move_15 ?_
    exact R_iret X hr hk0 dX9_move_16 hf
  unfold f_X9_move at hf
  refine (?_ : WW p l e (zrm 5 111) s m args below meth c D cas ad (zA ad) 4 0 0 (MQ below (zQi D cas ad r M') args s 0 0 (zA ad)) 0 [(0, .ref (ad 0)), (1, .int (zI v1)), (2, .int (zI v2))] [] M)
  refine R_iload_n X 1 dX9_move_0 rfl rfl ?_
  obtain ⟨r1, M2, hc3, hf⟩ := zbnd_some hf
  refine R_callSi X (av := [.int (zI v1)]) (rest := []) (c_X9_isShard l D cas ad hi hc3) zy_X9_isShard wm_X9_127 rfl rfl ⟨Nat.le_of_ble_eq_true rfl, Nat.le_of_ble_eq_true rfl⟩ ⟨Nat.le_refl _, Nat.le_refl _⟩ (Nat.le_of_ble_eq_true rfl) dX9_move_1 ?_
  obtain ⟨hq4, hf⟩ := zgrd hf
  refine R_if_eq X 15 hq4 dX9_move_4 (by decide) (fun c26 => ?_) (fun c26 => ?_)
  · have hf := zthen hf c26
    exact R_sub [] rfl (hB15 M2 hf)
  · have hf := zelse hf c26
    refine R_aload_n X 0 dX9_move_7 rfl rfl ?_
    refine R_iload_n X 2 dX9_move_8 rfl rfl ?_
    obtain ⟨r5, M6, hc7, hf⟩ := zbnd_some hf
    refine R_callVi X (av := [.int (zI v2)]) (rest := []) (c_X9_isPasture l D cas ad hi hc7) zy_X9_isPasture lc_0 rfl rfl wm_X9_65 rfl rfl ⟨Nat.le_of_ble_eq_true rfl, Nat.le_of_ble_eq_true rfl⟩ ⟨Nat.le_refl _, Nat.le_refl _⟩ (Nat.le_of_ble_eq_true rfl) dX9_move_9 ?_
    obtain ⟨hq8, hf⟩ := zgrd hf
    refine R_if_ne X 17 hq8 dX9_move_12 (by decide) (fun c25 => ?_) (fun c25 => ?_)
    · have hf := zelse hf c25
      refine R_aload_n X 0 dX9_move_17 rfl rfl ?_
      refine R_getR X (j := 0) 1 1 lc_0 rfl inX9 (by decide) rfl rfl (by decide) rfl rfl wf_X9_12 dX9_move_18 ?_
      refine R_getR X (j := 7) 13 14 lc_1 rfl inX7 (by decide) rfl rfl (by decide) rfl rfl wf_X9_130 dX9_move_21 ?_
      refine R_getR X (j := 0) 1 15 lc_14 rfl inX0 (by decide) rfl rfl (by decide) rfl rfl wf_X9_134 dX9_move_24 ?_
      refine R_iload_n X 1 dX9_move_27 rfl rfl ?_
      obtain ⟨hq9, hf⟩ := zgrd hf
      refine R_iald X lc_15 hq9 dX9_move_28 ?_
      obtain ⟨x10, ex10, hf⟩ := zlt_some hf
      refine R_istore_nX X (lv' := [(3, .int (zI x10)), (0, .ref (ad 0)), (1, .int (zI v1)), (2, .int (zI v2))]) ex10 dX9_move_29 rfl (by decide) rfl ?_
      refine R_iload_n X 0 dX9_move_30 rfl rfl ?_
      refine R_iload_n X 3 dX9_move_31 rfl rfl ?_
      obtain ⟨hq11, hf⟩ := zgrd hf
      obtain ⟨hq12, hf⟩ := zgrd hf
      refine R_icmp_ne X 38 ⟨hq11, hq12⟩ dX9_move_32 (by decide) (fun c24 => ?_) (fun c24 => ?_)
      · have hf := zelse hf c24
        refine R_aload_n X 1 dX9_move_38 rfl rfl ?_
        refine R_getR X (j := 0) 1 1 lc_0 rfl inX9 (by decide) rfl rfl (by decide) rfl rfl wf_X9_12 dX9_move_39 ?_
        refine R_getR X (j := 5) 3 4 lc_1 rfl inX7 (by decide) rfl rfl (by decide) rfl rfl wf_X9_47 dX9_move_42 ?_
        refine R_iload_n X 3 dX9_move_45 rfl rfl ?_
        obtain ⟨r13, M14, hc15, hf⟩ := zbnd_some hf
        refine R_callVi X (av := [.int (zI v2)]) (rest := []) (c_X2_hasRoom l D cas ad hi lc_4 hc15) zy_X2_hasRoom lc_4 rfl rfl wm_X9_139 rfl rfl ⟨Nat.le_of_ble_eq_true rfl, Nat.le_of_ble_eq_true rfl⟩ ⟨Nat.le_refl _, Nat.le_refl _⟩ (Nat.le_of_ble_eq_true rfl) dX9_move_46 ?_
        obtain ⟨hq16, hf⟩ := zgrd hf
        refine R_if_ne X 55 hq16 dX9_move_49 (by decide) (fun c23 => ?_) (fun c23 => ?_)
        · have hf := zelse hf c23
          refine R_aload_n X 1 dX9_move_55 rfl rfl ?_
          refine R_getR X (j := 3) 88 88 lc_0 rfl inX9 (by decide) rfl rfl (by decide) rfl rfl wf_X9_25 dX9_move_56 ?_
          refine R_aload_n X 1 dX9_move_59 rfl rfl ?_
          refine R_getR X (j := 0) 1 1 lc_0 rfl inX9 (by decide) rfl rfl (by decide) rfl rfl wf_X9_12 dX9_move_60 ?_
          obtain ⟨r17, M18, hc19, hf⟩ := zbnd_some hf
          refine R_callVv X (av := [.ref (ad 1)]) (rest := []) (c_X1_store l D cas ad hi lc_1 hc19) zy_X1_store lc_88 rfl rfl wm_X9_57 rfl rfl ⟨Nat.le_of_ble_eq_true rfl, Nat.le_of_ble_eq_true rfl⟩ ⟨Nat.le_refl _, Nat.le_refl _⟩ (Nat.le_of_ble_eq_true rfl) dX9_move_63 ?_
          refine R_aload_n X 1 dX9_move_66 rfl rfl ?_
          refine R_getR X (j := 0) 1 1 lc_0 rfl inX9 (by decide) rfl rfl (by decide) rfl rfl wf_X9_12 dX9_move_67 ?_
          refine R_iload_n X 2 dX9_move_70 rfl rfl ?_
          refine R_iload_n X 3 dX9_move_71 rfl rfl ?_
          obtain ⟨r20, M21, hc22, hf⟩ := zbnd_some hf
          refine R_callVv X (av := [.int (zI v1), .int (zI v2)]) (rest := []) (c_X7_drive l D cas ad hi lc_1 hc22) zy_X7_drive lc_1 rfl rfl wm_X9_142 rfl rfl ⟨Nat.le_of_ble_eq_true rfl, Nat.le_of_ble_eq_true rfl⟩ ⟨Nat.le_refl _, Nat.le_refl _⟩ (Nat.le_of_ble_eq_true rfl) dX9_move_72 ?_
          refine R_iload_n X 0 dX9_move_75 rfl rfl ?_
          exact R_iret X hr hk0 dX9_move_76 hf
        · have hf := zthen hf c23
          refine R_bipush X dX9_move_52 (by decide +kernel) ?_
          exact R_iret X hr hk0 dX9_move_54 hf
      · have hf := zthen hf c24
        refine R_bipush X dX9_move_35 (by decide +kernel) ?_
        exact R_iret X hr hk0 dX9_move_37 hf
    · have hf := zthen hf c25
      exact R_sub [] rfl (hB15 M6 hf)
theorem dX0_cool_0 : decode cX0_cool 0 = .ok (.iconst 0, 1) := by decide +kernel
theorem dX0_cool_1 : decode cX0_cool 1 = .ok (.istore_n 1, 1) := by decide +kernel
theorem dX0_cool_2 : decode cX0_cool 2 = .ok (.iload_n 1, 1) := by decide +kernel
theorem dX0_cool_3 : decode cX0_cool 3 = .ok (.bipush 16, 2) := by decide +kernel
theorem dX0_cool_5 : decode cX0_cool 5 = .ok (.if_icmp .ge 25, 3) := by decide +kernel
theorem dX0_cool_8 : decode cX0_cool 8 = .ok (.aload_n 0, 1) := by decide +kernel
theorem dX0_cool_9 : decode cX0_cool 9 = .ok (.getfield 15, 3) := by decide +kernel
theorem dX0_cool_12 : decode cX0_cool 12 = .ok (.iload_n 1, 1) := by decide +kernel
theorem dX0_cool_13 : decode cX0_cool 13 = .ok (.aload_n 0, 1) := by decide +kernel
theorem dX0_cool_14 : decode cX0_cool 14 = .ok (.getfield 15, 3) := by decide +kernel
theorem dX0_cool_17 : decode cX0_cool 17 = .ok (.iload_n 1, 1) := by decide +kernel
theorem dX0_cool_18 : decode cX0_cool 18 = .ok (.iaload, 1) := by decide +kernel
theorem dX0_cool_19 : decode cX0_cool 19 = .ok (.iconst 3, 1) := by decide +kernel
theorem dX0_cool_20 : decode cX0_cool 20 = .ok (.imul, 1) := by decide +kernel
theorem dX0_cool_21 : decode cX0_cool 21 = .ok (.iconst 4, 1) := by decide +kernel
theorem dX0_cool_22 : decode cX0_cool 22 = .ok (.idiv, 1) := by decide +kernel
theorem dX0_cool_23 : decode cX0_cool 23 = .ok (.iastore, 1) := by decide +kernel
theorem dX0_cool_24 : decode cX0_cool 24 = .ok (.iinc 1 1, 3) := by decide +kernel
theorem dX0_cool_27 : decode cX0_cool 27 = .ok (.goto (-25), 3) := by decide +kernel
theorem dX0_cool_30 : decode cX0_cool 30 = .ok (.return_, 1) := by decide +kernel
set_option maxRecDepth 100000 in
set_option maxHeartbeats 4000000 in
theorem c_X0_cool (l : Launch) (D : va_G) (cas : Nat → ClassId) (ad : Nat → Nat) (hi : zInj ad) {k : Nat}  (hk : k < zN ∧ lay k = (0, 0)) {r : Int} {M M' : Mem} (hf : f_X0_cool k M = some (r, M')) : zMv l D cas ad yX0_cool cX0_cool 2 0 0 [.ref (ad k)] M M' := by
  refine zbody (by decide) (Nat.le_of_ble_eq_true rfl) hi ?_
  intro p e s m args below meth c X hr hk0
  have X : zX p s m args c cX0_cool "ShardTrails$Herd" 2 D cas ad (zA ad) := X
  have hB2 : ∀ (n : Nat) (v1 : Int) (M : Mem), f_X0_cool_b2 k n v1 M = some (r, M') → WW p l e (zrm 0 0) s m args below meth c D cas ad (zA ad) 2 0 0 (MQ below (zQv D cas ad M') args s 0 0 (zA ad)) 2 [(0, .ref (ad k)), (1, .int (zI v1))] [] M := by
    intro n
    induction n with
    | zero => intro v1 M hf; exact absurd hf (by unfold f_X0_cool_b2; simp)
    | succ n ih =>
      intro v1 M hf
      unfold f_X0_cool_b2 at hf
      refine R_iload_n X 1 dX0_cool_2 rfl rfl ?_
      refine R_bipush X dX0_cool_3 (by decide +kernel) ?_
      obtain ⟨hq1, hf⟩ := zgrd hf
      refine R_icmp_ge X 30 ⟨hq1, (by decide)⟩ dX0_cool_5 (by decide) (fun c6 => ?_) (fun c6 => ?_)
      · have hf := zthen hf c6
        exact R_vret X hr hk0 dX0_cool_30 hf
      · have hf := zelse hf c6
        refine R_aload_n X 0 dX0_cool_8 rfl rfl ?_
        have hp2 : k + 2 < zN ∧ lay (k + 2) = (1, 16) := pt_0_1 _ hk.1 hk.2
        refine R_getR X (j := 1) 2 (k + 2) hk rfl inX0 (by decide) rfl rfl (by decide) rfl rfl wf_X0_15 dX0_cool_9 ?_
        refine R_iload_n X 1 dX0_cool_12 rfl rfl ?_
        refine R_aload_n X 0 dX0_cool_13 rfl rfl ?_
        refine R_getR X (j := 1) 2 (k + 2) hk rfl inX0 (by decide) rfl rfl (by decide) rfl rfl wf_X0_15 dX0_cool_14 ?_
        refine R_iload_n X 1 dX0_cool_17 rfl rfl ?_
        obtain ⟨hq3, hf⟩ := zgrd hf
        refine R_iald X hp2 hq3 dX0_cool_18 ?_
        refine R_iconst X dX0_cool_19 ?_
        refine R_imul X dX0_cool_20 ?_
        refine R_iconst X dX0_cool_21 ?_
        obtain ⟨hq4, hf⟩ := zgrd hf
        refine R_idiv X ⟨⟨hq4, (by decide)⟩, (by decide)⟩ dX0_cool_22 ?_
        obtain ⟨M5, eM5, hf⟩ := zlt_some hf
        refine R_iast X hp2 hq3 dX0_cool_23 ?_
        refine R_mem eM5 ?_
        refine R_iinc X (lv' := [(1, .int (zI (v1 + 1))), (0, .ref (ad k))]) 1 dX0_cool_24 rfl (by decide) rfl ?_
        refine R_goto X 2 dX0_cool_27 (by decide) ?_
        exact R_sub [1, 0] rfl (ih (v1 + 1) M5 hf)
  unfold f_X0_cool at hf
  refine (?_ : WW p l e (zrm 0 0) s m args below meth c D cas ad (zA ad) 2 0 0 (MQ below (zQv D cas ad M') args s 0 0 (zA ad)) 0 [(0, .ref (ad k))] [] M)
  refine R_iconst X dX0_cool_0 ?_
  refine R_istore_n X (lv' := [(1, .int (zI 0)), (0, .ref (ad k))]) dX0_cool_1 rfl (by decide) rfl ?_
  exact R_sub [1, 0] rfl (hB2 100000 0 M hf)
theorem dX0_isAskedBefore_0 : decode cX0_isAskedBefore 0 = .ok (.aload_n 0, 1) := by decide +kernel
theorem dX0_isAskedBefore_1 : decode cX0_isAskedBefore 1 = .ok (.getfield 15, 3) := by decide +kernel
theorem dX0_isAskedBefore_4 : decode cX0_isAskedBefore 4 = .ok (.iload_n 1, 1) := by decide +kernel
theorem dX0_isAskedBefore_5 : decode cX0_isAskedBefore 5 = .ok (.iaload, 1) := by decide +kernel
theorem dX0_isAskedBefore_6 : decode cX0_isAskedBefore 6 = .ok (.aload_n 0, 1) := by decide +kernel
theorem dX0_isAskedBefore_7 : decode cX0_isAskedBefore 7 = .ok (.getfield 15, 3) := by decide +kernel
theorem dX0_isAskedBefore_10 : decode cX0_isAskedBefore 10 = .ok (.iload_n 2, 1) := by decide +kernel
theorem dX0_isAskedBefore_11 : decode cX0_isAskedBefore 11 = .ok (.iaload, 1) := by decide +kernel
theorem dX0_isAskedBefore_12 : decode cX0_isAskedBefore 12 = .ok (.if_icmp .gt 23, 3) := by decide +kernel
theorem dX0_isAskedBefore_15 : decode cX0_isAskedBefore 15 = .ok (.aload_n 0, 1) := by decide +kernel
theorem dX0_isAskedBefore_16 : decode cX0_isAskedBefore 16 = .ok (.getfield 15, 3) := by decide +kernel
theorem dX0_isAskedBefore_19 : decode cX0_isAskedBefore 19 = .ok (.iload_n 1, 1) := by decide +kernel
theorem dX0_isAskedBefore_20 : decode cX0_isAskedBefore 20 = .ok (.iaload, 1) := by decide +kernel
theorem dX0_isAskedBefore_21 : decode cX0_isAskedBefore 21 = .ok (.aload_n 0, 1) := by decide +kernel
theorem dX0_isAskedBefore_22 : decode cX0_isAskedBefore 22 = .ok (.getfield 15, 3) := by decide +kernel
theorem dX0_isAskedBefore_25 : decode cX0_isAskedBefore 25 = .ok (.iload_n 2, 1) := by decide +kernel
theorem dX0_isAskedBefore_26 : decode cX0_isAskedBefore 26 = .ok (.iaload, 1) := by decide +kernel
theorem dX0_isAskedBefore_27 : decode cX0_isAskedBefore 27 = .ok (.if_icmp .ne 12, 3) := by decide +kernel
theorem dX0_isAskedBefore_30 : decode cX0_isAskedBefore 30 = .ok (.iload_n 1, 1) := by decide +kernel
theorem dX0_isAskedBefore_31 : decode cX0_isAskedBefore 31 = .ok (.iload_n 2, 1) := by decide +kernel
theorem dX0_isAskedBefore_32 : decode cX0_isAskedBefore 32 = .ok (.if_icmp .ge 7, 3) := by decide +kernel
theorem dX0_isAskedBefore_35 : decode cX0_isAskedBefore 35 = .ok (.iconst 1, 1) := by decide +kernel
theorem dX0_isAskedBefore_36 : decode cX0_isAskedBefore 36 = .ok (.goto 4, 3) := by decide +kernel
theorem dX0_isAskedBefore_39 : decode cX0_isAskedBefore 39 = .ok (.iconst 0, 1) := by decide +kernel
theorem dX0_isAskedBefore_40 : decode cX0_isAskedBefore 40 = .ok (.ireturn, 1) := by decide +kernel
set_option maxRecDepth 100000 in
set_option maxHeartbeats 4000000 in
theorem c_X0_isAskedBefore (l : Launch) (D : va_G) (cas : Nat → ClassId) (ad : Nat → Nat) (hi : zInj ad) {k : Nat} {v1 : Int} {v2 : Int} (hk : k < zN ∧ lay k = (0, 0)) {r : Int} {M M' : Mem} (hf : f_X0_isAskedBefore k v1 v2 M = some (r, M')) : zMi l D cas ad yX0_isAskedBefore cX0_isAskedBefore 3 (some .boolean) 0 0 [.ref (ad k), .int (zI v1), .int (zI v2)] M r M' := by
  refine zbody (by decide) (Nat.le_of_ble_eq_true rfl) hi ?_
  intro p e s m args below meth c X hr hk0
  have X : zX p s m args c cX0_isAskedBefore "ShardTrails$Herd" 3 D cas ad (zA ad) := X
  have hB40 : ∀ (t1 : Int) (M : Mem), f_X0_isAskedBefore_b40 k t1 M = some (r, M') → WW p l e (zrm 0 0) s m args below meth c D cas ad (zA ad) 3 0 0 (MQ below (zQi D cas ad r M') args s 0 0 (zA ad)) 40 [] [.int (zI t1)] M := by
    intro t1 M hf
    unfold f_X0_isAskedBefore_b40 at hf
    obtain ⟨hq11, hf⟩ := zgrd hf
    exact R_zret X hq11 hr hk0 dX0_isAskedBefore_40 hf
  have hB35 : ∀ (M : Mem), f_X0_isAskedBefore_b35 k M = some (r, M') → WW p l e (zrm 0 0) s m args below meth c D cas ad (zA ad) 3 0 0 (MQ below (zQi D cas ad r M') args s 0 0 (zA ad)) 35 [] [] M := by
    intro M hf
    unfold f_X0_isAskedBefore_b35 at hf
    refine R_iconst X dX0_isAskedBefore_35 ?_
    refine R_goto X 40 dX0_isAskedBefore_36 (by decide) ?_
    exact R_sub [] rfl (hB40 1 M hf)
  have hB39 : ∀ (M : Mem), f_X0_isAskedBefore_b39 k M = some (r, M') → WW p l e (zrm 0 0) s m args below meth c D cas ad (zA ad) 3 0 0 (MQ below (zQi D cas ad r M') args s 0 0 (zA ad)) 39 [] [] M := by
    intro M hf
    unfold f_X0_isAskedBefore_b39 at hf
    refine R_iconst X dX0_isAskedBefore_39 ?_
    exact R_sub [] rfl (hB40 0 M hf)
  unfold f_X0_isAskedBefore at hf
  refine (?_ : WW p l e (zrm 0 0) s m args below meth c D cas ad (zA ad) 3 0 0 (MQ below (zQi D cas ad r M') args s 0 0 (zA ad)) 0 [(0, .ref (ad k)), (1, .int (zI v1)), (2, .int (zI v2))] [] M)
  refine R_aload_n X 0 dX0_isAskedBefore_0 rfl rfl ?_
  have hp1 : k + 2 < zN ∧ lay (k + 2) = (1, 16) := pt_0_1 _ hk.1 hk.2
  refine R_getR X (j := 1) 2 (k + 2) hk rfl inX0 (by decide) rfl rfl (by decide) rfl rfl wf_X0_15 dX0_isAskedBefore_1 ?_
  refine R_iload_n X 1 dX0_isAskedBefore_4 rfl rfl ?_
  obtain ⟨hq2, hf⟩ := zgrd hf
  refine R_iald X hp1 hq2 dX0_isAskedBefore_5 ?_
  refine R_aload_n X 0 dX0_isAskedBefore_6 rfl rfl ?_
  refine R_getR X (j := 1) 2 (k + 2) hk rfl inX0 (by decide) rfl rfl (by decide) rfl rfl wf_X0_15 dX0_isAskedBefore_7 ?_
  refine R_iload_n X 2 dX0_isAskedBefore_10 rfl rfl ?_
  obtain ⟨hq3, hf⟩ := zgrd hf
  refine R_iald X hp1 hq3 dX0_isAskedBefore_11 ?_
  obtain ⟨hq4, hf⟩ := zgrd hf
  obtain ⟨hq5, hf⟩ := zgrd hf
  refine R_icmp_gt X 35 ⟨hq4, hq5⟩ dX0_isAskedBefore_12 (by decide) (fun c10 => ?_) (fun c10 => ?_)
  · have hf := zthen hf c10
    exact R_sub [] rfl (hB35 M hf)
  · have hf := zelse hf c10
    refine R_aload_n X 0 dX0_isAskedBefore_15 rfl rfl ?_
    refine R_getR X (j := 1) 2 (k + 2) hk rfl inX0 (by decide) rfl rfl (by decide) rfl rfl wf_X0_15 dX0_isAskedBefore_16 ?_
    refine R_iload_n X 1 dX0_isAskedBefore_19 rfl rfl ?_
    refine R_iald X hp1 hq2 dX0_isAskedBefore_20 ?_
    refine R_aload_n X 0 dX0_isAskedBefore_21 rfl rfl ?_
    refine R_getR X (j := 1) 2 (k + 2) hk rfl inX0 (by decide) rfl rfl (by decide) rfl rfl wf_X0_15 dX0_isAskedBefore_22 ?_
    refine R_iload_n X 2 dX0_isAskedBefore_25 rfl rfl ?_
    refine R_iald X hp1 hq3 dX0_isAskedBefore_26 ?_
    refine R_icmp_ne X 39 ⟨hq4, hq5⟩ dX0_isAskedBefore_27 (by decide) (fun c9 => ?_) (fun c9 => ?_)
    · have hf := zelse hf c9
      exact R_sub [] rfl (hB39 M hf)
    · have hf := zthen hf c9
      refine R_iload_n X 1 dX0_isAskedBefore_30 rfl rfl ?_
      refine R_iload_n X 2 dX0_isAskedBefore_31 rfl rfl ?_
      obtain ⟨hq6, hf⟩ := zgrd hf
      obtain ⟨hq7, hf⟩ := zgrd hf
      refine R_icmp_ge X 39 ⟨hq6, hq7⟩ dX0_isAskedBefore_32 (by decide) (fun c8 => ?_) (fun c8 => ?_)
      · have hf := zthen hf c8
        exact R_sub [] rfl (hB39 M hf)
      · have hf := zelse hf c8
        exact R_sub [] rfl (hB35 M hf)
theorem dX0_sortByHeat_0 : decode cX0_sortByHeat 0 = .ok (.iconst 0, 1) := by decide +kernel
theorem dX0_sortByHeat_1 : decode cX0_sortByHeat 1 = .ok (.istore_n 2, 1) := by decide +kernel
theorem dX0_sortByHeat_2 : decode cX0_sortByHeat 2 = .ok (.iload_n 2, 1) := by decide +kernel
theorem dX0_sortByHeat_3 : decode cX0_sortByHeat 3 = .ok (.bipush 16, 2) := by decide +kernel
theorem dX0_sortByHeat_5 : decode cX0_sortByHeat 5 = .ok (.if_icmp .ge 46, 3) := by decide +kernel
theorem dX0_sortByHeat_8 : decode cX0_sortByHeat 8 = .ok (.iload_n 2, 1) := by decide +kernel
theorem dX0_sortByHeat_9 : decode cX0_sortByHeat 9 = .ok (.istore_n 3, 1) := by decide +kernel
theorem dX0_sortByHeat_10 : decode cX0_sortByHeat 10 = .ok (.iload_n 3, 1) := by decide +kernel
theorem dX0_sortByHeat_11 : decode cX0_sortByHeat 11 = .ok (.ifCond .le 30, 3) := by decide +kernel
theorem dX0_sortByHeat_14 : decode cX0_sortByHeat 14 = .ok (.aload_n 0, 1) := by decide +kernel
theorem dX0_sortByHeat_15 : decode cX0_sortByHeat 15 = .ok (.iload_n 2, 1) := by decide +kernel
theorem dX0_sortByHeat_16 : decode cX0_sortByHeat 16 = .ok (.aload_n 1, 1) := by decide +kernel
theorem dX0_sortByHeat_17 : decode cX0_sortByHeat 17 = .ok (.iload_n 3, 1) := by decide +kernel
theorem dX0_sortByHeat_18 : decode cX0_sortByHeat 18 = .ok (.iconst 1, 1) := by decide +kernel
theorem dX0_sortByHeat_19 : decode cX0_sortByHeat 19 = .ok (.isub, 1) := by decide +kernel
theorem dX0_sortByHeat_20 : decode cX0_sortByHeat 20 = .ok (.iaload, 1) := by decide +kernel
theorem dX0_sortByHeat_21 : decode cX0_sortByHeat 21 = .ok (.invokevirtual 34, 3) := by decide +kernel
theorem dX0_sortByHeat_24 : decode cX0_sortByHeat 24 = .ok (.ifCond .eq 17, 3) := by decide +kernel
theorem dX0_sortByHeat_27 : decode cX0_sortByHeat 27 = .ok (.aload_n 1, 1) := by decide +kernel
theorem dX0_sortByHeat_28 : decode cX0_sortByHeat 28 = .ok (.iload_n 3, 1) := by decide +kernel
theorem dX0_sortByHeat_29 : decode cX0_sortByHeat 29 = .ok (.aload_n 1, 1) := by decide +kernel
theorem dX0_sortByHeat_30 : decode cX0_sortByHeat 30 = .ok (.iload_n 3, 1) := by decide +kernel
theorem dX0_sortByHeat_31 : decode cX0_sortByHeat 31 = .ok (.iconst 1, 1) := by decide +kernel
theorem dX0_sortByHeat_32 : decode cX0_sortByHeat 32 = .ok (.isub, 1) := by decide +kernel
theorem dX0_sortByHeat_33 : decode cX0_sortByHeat 33 = .ok (.iaload, 1) := by decide +kernel
theorem dX0_sortByHeat_34 : decode cX0_sortByHeat 34 = .ok (.iastore, 1) := by decide +kernel
theorem dX0_sortByHeat_35 : decode cX0_sortByHeat 35 = .ok (.iinc 3 (-1), 3) := by decide +kernel
theorem dX0_sortByHeat_38 : decode cX0_sortByHeat 38 = .ok (.goto (-28), 3) := by decide +kernel
theorem dX0_sortByHeat_41 : decode cX0_sortByHeat 41 = .ok (.aload_n 1, 1) := by decide +kernel
theorem dX0_sortByHeat_42 : decode cX0_sortByHeat 42 = .ok (.iload_n 3, 1) := by decide +kernel
theorem dX0_sortByHeat_43 : decode cX0_sortByHeat 43 = .ok (.iload_n 2, 1) := by decide +kernel
theorem dX0_sortByHeat_44 : decode cX0_sortByHeat 44 = .ok (.iastore, 1) := by decide +kernel
theorem dX0_sortByHeat_45 : decode cX0_sortByHeat 45 = .ok (.iinc 2 1, 3) := by decide +kernel
theorem dX0_sortByHeat_48 : decode cX0_sortByHeat 48 = .ok (.goto (-46), 3) := by decide +kernel
theorem dX0_sortByHeat_51 : decode cX0_sortByHeat 51 = .ok (.return_, 1) := by decide +kernel
set_option maxRecDepth 100000 in
set_option maxHeartbeats 4000000 in
theorem c_X0_sortByHeat (l : Launch) (D : va_G) (cas : Nat → ClassId) (ad : Nat → Nat) (hi : zInj ad) {k : Nat} {a1 : Nat} {n1 : Nat}  (hk : k < zN ∧ lay k = (0, 0)) (ha1 : a1 < zN ∧ lay a1 = (1, n1)) {r : Int} {M M' : Mem} (hf : f_X0_sortByHeat k a1 n1 M = some (r, M')) : zMv l D cas ad yX0_sortByHeat cX0_sortByHeat 4 1 22 [.ref (ad k), .ref (ad a1)] M M' := by
  refine zbody (by decide) (Nat.le_of_ble_eq_true rfl) hi ?_
  intro p e s m args below meth c X hr hk0
  have X : zX p s m args c cX0_sortByHeat "ShardTrails$Herd" 4 D cas ad (zA ad) := X
  have hB41 : ∀ (g2 : Int → Mem → Option (Int × Mem)) (hg2 : ∀ (v2 : Int) (M : Mem), g2 v2 M = some (r, M') → WW p l e (zrm 1 22) s m args below meth c D cas ad (zA ad) 4 0 0 (MQ below (zQv D cas ad M') args s 0 0 (zA ad)) 2 [(0, .ref (ad k)), (1, .ref (ad a1)), (2, .int (zI v2))] [] M) (v2 v3 : Int) (M : Mem), f_X0_sortByHeat_b41 g2 k a1 n1 v2 v3 M = some (r, M') → WW p l e (zrm 1 22) s m args below meth c D cas ad (zA ad) 4 0 0 (MQ below (zQv D cas ad M') args s 0 0 (zA ad)) 41 [(0, .ref (ad k)), (1, .ref (ad a1)), (2, .int (zI v2)), (3, .int (zI v3))] [] M := by
    intro g2 hg2 v2 v3 M hf
    unfold f_X0_sortByHeat_b41 at hf
    refine R_aload_n X 1 dX0_sortByHeat_41 rfl rfl ?_
    refine R_iload_n X 3 dX0_sortByHeat_42 rfl rfl ?_
    refine R_iload_n X 2 dX0_sortByHeat_43 rfl rfl ?_
    obtain ⟨hq13, hf⟩ := zgrd hf
    obtain ⟨M14, eM14, hf⟩ := zlt_some hf
    refine R_iast X ha1 hq13 dX0_sortByHeat_44 ?_
    refine R_mem eM14 ?_
    refine R_iinc X (lv' := [(2, .int (zI (v2 + 1))), (0, .ref (ad k)), (1, .ref (ad a1)), (3, .int (zI v3))]) 2 dX0_sortByHeat_45 rfl (by decide) rfl ?_
    refine R_goto X 2 dX0_sortByHeat_48 (by decide) ?_
    exact R_sub [1, 2, 0] rfl (hg2 (v2 + 1) M14 hf)
  have hB10 : ∀ (g2 : Int → Mem → Option (Int × Mem)) (hg2 : ∀ (v2 : Int) (M : Mem), g2 v2 M = some (r, M') → WW p l e (zrm 1 22) s m args below meth c D cas ad (zA ad) 4 0 0 (MQ below (zQv D cas ad M') args s 0 0 (zA ad)) 2 [(0, .ref (ad k)), (1, .ref (ad a1)), (2, .int (zI v2))] [] M) (n : Nat) (v2 v3 : Int) (M : Mem), f_X0_sortByHeat_b10 g2 k a1 n1 n v2 v3 M = some (r, M') → WW p l e (zrm 1 22) s m args below meth c D cas ad (zA ad) 4 0 0 (MQ below (zQv D cas ad M') args s 0 0 (zA ad)) 10 [(0, .ref (ad k)), (1, .ref (ad a1)), (2, .int (zI v2)), (3, .int (zI v3))] [] M := by
    intro g2 hg2 n
    induction n with
    | zero => intro v2 v3 M hf; exact absurd hf (by unfold f_X0_sortByHeat_b10; simp)
    | succ n ih =>
      intro v2 v3 M hf
      unfold f_X0_sortByHeat_b10 at hf
      refine R_iload_n X 3 dX0_sortByHeat_10 rfl rfl ?_
      obtain ⟨hq3, hf⟩ := zgrd hf
      refine R_if_le X 41 hq3 dX0_sortByHeat_11 (by decide) (fun c12 => ?_) (fun c12 => ?_)
      · have hf := zthen hf c12
        exact R_sub [0, 1, 2, 3] rfl (hB41 g2 hg2 v2 v3 M hf)
      · have hf := zelse hf c12
        refine R_aload_n X 0 dX0_sortByHeat_14 rfl rfl ?_
        refine R_iload_n X 2 dX0_sortByHeat_15 rfl rfl ?_
        refine R_aload_n X 1 dX0_sortByHeat_16 rfl rfl ?_
        refine R_iload_n X 3 dX0_sortByHeat_17 rfl rfl ?_
        refine R_iconst X dX0_sortByHeat_18 ?_
        refine R_isub X dX0_sortByHeat_19 ?_
        obtain ⟨hq4, hf⟩ := zgrd hf
        refine R_iald X ha1 hq4 dX0_sortByHeat_20 ?_
        obtain ⟨r5, M6, hc7, hf⟩ := zbnd_some hf
        refine R_callVi X (av := [.int (zI v2), .int (zI (M a1 (v3 - 1).toNat))]) (rest := []) (c_X0_isAskedBefore l D cas ad hi hk hc7) zy_X0_isAskedBefore hk rfl rfl wm_X0_34 rfl rfl ⟨Nat.le_of_ble_eq_true rfl, Nat.le_of_ble_eq_true rfl⟩ ⟨Nat.le_refl _, Nat.le_refl _⟩ (Nat.le_of_ble_eq_true rfl) dX0_sortByHeat_21 ?_
        obtain ⟨hq8, hf⟩ := zgrd hf
        refine R_if_eq X 41 hq8 dX0_sortByHeat_24 (by decide) (fun c11 => ?_) (fun c11 => ?_)
        · have hf := zthen hf c11
          exact R_sub [0, 1, 2, 3] rfl (hB41 g2 hg2 v2 v3 M6 hf)
        · have hf := zelse hf c11
          refine R_aload_n X 1 dX0_sortByHeat_27 rfl rfl ?_
          refine R_iload_n X 3 dX0_sortByHeat_28 rfl rfl ?_
          refine R_aload_n X 1 dX0_sortByHeat_29 rfl rfl ?_
          refine R_iload_n X 3 dX0_sortByHeat_30 rfl rfl ?_
          refine R_iconst X dX0_sortByHeat_31 ?_
          refine R_isub X dX0_sortByHeat_32 ?_
          refine R_iald X ha1 hq4 dX0_sortByHeat_33 ?_
          obtain ⟨hq9, hf⟩ := zgrd hf
          obtain ⟨M10, eM10, hf⟩ := zlt_some hf
          refine R_iast X ha1 hq9 dX0_sortByHeat_34 ?_
          refine R_mem eM10 ?_
          refine R_iinc X (lv' := [(3, .int (zI (v3 + (-1)))), (0, .ref (ad k)), (1, .ref (ad a1)), (2, .int (zI v2))]) 3 dX0_sortByHeat_35 rfl (by decide) rfl ?_
          refine R_goto X 10 dX0_sortByHeat_38 (by decide) ?_
          exact R_sub [1, 2, 3, 0] rfl (ih v2 (v3 + (-1)) M10 hf)
  have hB2 : ∀ (n : Nat) (v2 : Int) (M : Mem), f_X0_sortByHeat_b2 k a1 n1 n v2 M = some (r, M') → WW p l e (zrm 1 22) s m args below meth c D cas ad (zA ad) 4 0 0 (MQ below (zQv D cas ad M') args s 0 0 (zA ad)) 2 [(0, .ref (ad k)), (1, .ref (ad a1)), (2, .int (zI v2))] [] M := by
    intro n
    induction n with
    | zero => intro v2 M hf; exact absurd hf (by unfold f_X0_sortByHeat_b2; simp)
    | succ n ih =>
      intro v2 M hf
      unfold f_X0_sortByHeat_b2 at hf
      refine R_iload_n X 2 dX0_sortByHeat_2 rfl rfl ?_
      refine R_bipush X dX0_sortByHeat_3 (by decide +kernel) ?_
      obtain ⟨hq1, hf⟩ := zgrd hf
      refine R_icmp_ge X 51 ⟨hq1, (by decide)⟩ dX0_sortByHeat_5 (by decide) (fun c2 => ?_) (fun c2 => ?_)
      · have hf := zthen hf c2
        exact R_vret X hr hk0 dX0_sortByHeat_51 hf
      · have hf := zelse hf c2
        refine R_iload_n X 2 dX0_sortByHeat_8 rfl rfl ?_
        refine R_istore_n X (lv' := [(3, .int (zI v2)), (0, .ref (ad k)), (1, .ref (ad a1)), (2, .int (zI v2))]) dX0_sortByHeat_9 rfl (by decide) rfl ?_
        exact R_sub [1, 2, 3, 0] rfl (hB10 (f_X0_sortByHeat_b2 k a1 n1 n) ih 100000 v2 v2 M hf)
  unfold f_X0_sortByHeat at hf
  refine (?_ : WW p l e (zrm 1 22) s m args below meth c D cas ad (zA ad) 4 0 0 (MQ below (zQv D cas ad M') args s 0 0 (zA ad)) 0 [(0, .ref (ad k)), (1, .ref (ad a1))] [] M)
  refine R_iconst X dX0_sortByHeat_0 ?_
  refine R_istore_n X (lv' := [(2, .int (zI 0)), (0, .ref (ad k)), (1, .ref (ad a1))]) dX0_sortByHeat_1 rfl (by decide) rfl ?_
  exact R_sub [1, 2, 0] rfl (hB2 100000 0 M hf)
theorem dX2_distance_0 : decode cX2_distance 0 = .ok (.aload_n 0, 1) := by decide +kernel
theorem dX2_distance_1 : decode cX2_distance 1 = .ok (.getfield 9, 3) := by decide +kernel
theorem dX2_distance_4 : decode cX2_distance 4 = .ok (.iload_n 1, 1) := by decide +kernel
theorem dX2_distance_5 : decode cX2_distance 5 = .ok (.iaload, 1) := by decide +kernel
theorem dX2_distance_6 : decode cX2_distance 6 = .ok (.iload_n 2, 1) := by decide +kernel
theorem dX2_distance_7 : decode cX2_distance 7 = .ok (.isub, 1) := by decide +kernel
theorem dX2_distance_8 : decode cX2_distance 8 = .ok (.invokestatic 45, 3) := by decide +kernel
theorem dX2_distance_11 : decode cX2_distance 11 = .ok (.ireturn, 1) := by decide +kernel
set_option maxRecDepth 100000 in
set_option maxHeartbeats 4000000 in
theorem c_X2_distance (l : Launch) (D : va_G) (cas : Nat → ClassId) (ad : Nat → Nat) (hi : zInj ad) {k : Nat} {v1 : Int} {v2 : Int} (hk : k < zN ∧ lay k = (0, 2)) {r : Int} {M M' : Mem} (hf : f_X2_distance k v1 v2 M = some (r, M')) : zMi l D cas ad yX2_distance cX2_distance 3 (some .int) 1 21 [.ref (ad k), .int (zI v1), .int (zI v2)] M r M' := by
  refine zbody (by decide) (Nat.le_of_ble_eq_true rfl) hi ?_
  intro p e s m args below meth c X hr hk0
  have X : zX p s m args c cX2_distance "ShardTrails$Land" 3 D cas ad (zA ad) := X
  unfold f_X2_distance at hf
  refine (?_ : WW p l e (zrm 1 21) s m args below meth c D cas ad (zA ad) 3 0 0 (MQ below (zQi D cas ad r M') args s 0 0 (zA ad)) 0 [(0, .ref (ad k)), (1, .int (zI v1)), (2, .int (zI v2))] [] M)
  refine R_aload_n X 0 dX2_distance_0 rfl rfl ?_
  have hp1 : k + 1 < zN ∧ lay (k + 1) = (1, 8) := pt_2_1 _ hk.1 hk.2
  refine R_getR X (j := 1) 1 (k + 1) hk rfl inX2 (by decide) rfl rfl (by decide) rfl rfl wf_X2_9 dX2_distance_1 ?_
  refine R_iload_n X 1 dX2_distance_4 rfl rfl ?_
  obtain ⟨hq2, hf⟩ := zgrd hf
  refine R_iald X hp1 hq2 dX2_distance_5 ?_
  refine R_iload_n X 2 dX2_distance_6 rfl rfl ?_
  refine R_isub X dX2_distance_7 ?_
  obtain ⟨hq3, hf⟩ := zgrd hf
  refine R_mabs X hq3 wm_X2_45 (by decide) (Nat.le_of_ble_eq_true rfl) ⟨Nat.le_refl _, Nat.le_refl _⟩ dX2_distance_8 zm_abs ?_
  exact R_iret X hr hk0 dX2_distance_11 hf
theorem dX2_bestOther_0 : decode cX2_bestOther 0 = .ok (.bipush (-5), 2) := by decide +kernel
theorem dX2_bestOther_2 : decode cX2_bestOther 2 = .ok (.istore_n 3, 1) := by decide +kernel
theorem dX2_bestOther_3 : decode cX2_bestOther 3 = .ok (.bipush 91, 2) := by decide +kernel
theorem dX2_bestOther_5 : decode cX2_bestOther 5 = .ok (.istore 4, 2) := by decide +kernel
theorem dX2_bestOther_7 : decode cX2_bestOther 7 = .ok (.iconst 0, 1) := by decide +kernel
theorem dX2_bestOther_8 : decode cX2_bestOther 8 = .ok (.istore 5, 2) := by decide +kernel
theorem dX2_bestOther_10 : decode cX2_bestOther 10 = .ok (.iload 5, 2) := by decide +kernel
theorem dX2_bestOther_12 : decode cX2_bestOther 12 = .ok (.aload_n 0, 1) := by decide +kernel
theorem dX2_bestOther_13 : decode cX2_bestOther 13 = .ok (.getfield 37, 3) := by decide +kernel
theorem dX2_bestOther_16 : decode cX2_bestOther 16 = .ok (.if_icmp .ge 48, 3) := by decide +kernel
theorem dX2_bestOther_19 : decode cX2_bestOther 19 = .ok (.iload 5, 2) := by decide +kernel
theorem dX2_bestOther_21 : decode cX2_bestOther 21 = .ok (.iload_n 1, 1) := by decide +kernel
theorem dX2_bestOther_22 : decode cX2_bestOther 22 = .ok (.if_icmp .eq 36, 3) := by decide +kernel
theorem dX2_bestOther_25 : decode cX2_bestOther 25 = .ok (.aload_n 0, 1) := by decide +kernel
theorem dX2_bestOther_26 : decode cX2_bestOther 26 = .ok (.iload 5, 2) := by decide +kernel
theorem dX2_bestOther_28 : decode cX2_bestOther 28 = .ok (.invokevirtual 61, 3) := by decide +kernel
theorem dX2_bestOther_31 : decode cX2_bestOther 31 = .ok (.ifCond .eq 27, 3) := by decide +kernel
theorem dX2_bestOther_34 : decode cX2_bestOther 34 = .ok (.aload_n 0, 1) := by decide +kernel
theorem dX2_bestOther_35 : decode cX2_bestOther 35 = .ok (.iload 5, 2) := by decide +kernel
theorem dX2_bestOther_37 : decode cX2_bestOther 37 = .ok (.iload_n 2, 1) := by decide +kernel
theorem dX2_bestOther_38 : decode cX2_bestOther 38 = .ok (.invokevirtual 65, 3) := by decide +kernel
theorem dX2_bestOther_41 : decode cX2_bestOther 41 = .ok (.iload 4, 2) := by decide +kernel
theorem dX2_bestOther_43 : decode cX2_bestOther 43 = .ok (.if_icmp .ge 15, 3) := by decide +kernel
theorem dX2_bestOther_46 : decode cX2_bestOther 46 = .ok (.iload 5, 2) := by decide +kernel
theorem dX2_bestOther_48 : decode cX2_bestOther 48 = .ok (.istore_n 3, 1) := by decide +kernel
theorem dX2_bestOther_49 : decode cX2_bestOther 49 = .ok (.aload_n 0, 1) := by decide +kernel
theorem dX2_bestOther_50 : decode cX2_bestOther 50 = .ok (.iload 5, 2) := by decide +kernel
theorem dX2_bestOther_52 : decode cX2_bestOther 52 = .ok (.iload_n 2, 1) := by decide +kernel
theorem dX2_bestOther_53 : decode cX2_bestOther 53 = .ok (.invokevirtual 65, 3) := by decide +kernel
theorem dX2_bestOther_56 : decode cX2_bestOther 56 = .ok (.istore 4, 2) := by decide +kernel
theorem dX2_bestOther_58 : decode cX2_bestOther 58 = .ok (.iinc 5 1, 3) := by decide +kernel
theorem dX2_bestOther_61 : decode cX2_bestOther 61 = .ok (.goto (-51), 3) := by decide +kernel
theorem dX2_bestOther_64 : decode cX2_bestOther 64 = .ok (.iload_n 3, 1) := by decide +kernel
theorem dX2_bestOther_65 : decode cX2_bestOther 65 = .ok (.ireturn, 1) := by decide +kernel
set_option maxRecDepth 100000 in
set_option maxHeartbeats 4000000 in
theorem c_X2_bestOther (l : Launch) (D : va_G) (cas : Nat → ClassId) (ad : Nat → Nat) (hi : zInj ad) {k : Nat} {v1 : Int} {v2 : Int} (hk : k < zN ∧ lay k = (0, 2)) {r : Int} {M M' : Mem} (hf : f_X2_bestOther k v1 v2 M = some (r, M')) : zMi l D cas ad yX2_bestOther cX2_bestOther 6 (some .int) 2 43 [.ref (ad k), .int (zI v1), .int (zI v2)] M r M' := by
  refine zbody (by decide) (Nat.le_of_ble_eq_true rfl) hi ?_
  intro p e s m args below meth c X hr hk0
  have X : zX p s m args c cX2_bestOther "ShardTrails$Land" 6 D cas ad (zA ad) := X
  have hB58 : ∀ (g10 : Int → Int → Int → Int → Int → Mem → Option (Int × Mem)) (hg10 : ∀ (v1 v2 v3 v4 v5 : Int) (M : Mem), g10 v1 v2 v3 v4 v5 M = some (r, M') → WW p l e (zrm 2 43) s m args below meth c D cas ad (zA ad) 6 0 0 (MQ below (zQi D cas ad r M') args s 0 0 (zA ad)) 10 [(0, .ref (ad k)), (1, .int (zI v1)), (2, .int (zI v2)), (3, .int (zI v3)), (4, .int (zI v4)), (5, .int (zI v5))] [] M) (v1 v2 v3 v4 v5 : Int) (M : Mem), f_X2_bestOther_b58 g10 k v1 v2 v3 v4 v5 M = some (r, M') → WW p l e (zrm 2 43) s m args below meth c D cas ad (zA ad) 6 0 0 (MQ below (zQi D cas ad r M') args s 0 0 (zA ad)) 58 [(0, .ref (ad k)), (1, .int (zI v1)), (2, .int (zI v2)), (3, .int (zI v3)), (4, .int (zI v4)), (5, .int (zI v5))] [] M := by
    intro g10 hg10 v1 v2 v3 v4 v5 M hf
    unfold f_X2_bestOther_b58 at hf
    refine R_iinc X (lv' := [(5, .int (zI (v5 + 1))), (0, .ref (ad k)), (1, .int (zI v1)), (2, .int (zI v2)), (3, .int (zI v3)), (4, .int (zI v4))]) 5 dX2_bestOther_58 rfl (by decide) rfl ?_
    refine R_goto X 10 dX2_bestOther_61 (by decide) ?_
    exact R_sub [1, 2, 3, 4, 5, 0] rfl (hg10 v1 v2 v3 v4 (v5 + 1) M hf)
  have hB10 : ∀ (n : Nat) (v1 v2 v3 v4 v5 : Int) (M : Mem), f_X2_bestOther_b10 k n v1 v2 v3 v4 v5 M = some (r, M') → WW p l e (zrm 2 43) s m args below meth c D cas ad (zA ad) 6 0 0 (MQ below (zQi D cas ad r M') args s 0 0 (zA ad)) 10 [(0, .ref (ad k)), (1, .int (zI v1)), (2, .int (zI v2)), (3, .int (zI v3)), (4, .int (zI v4)), (5, .int (zI v5))] [] M := by
    intro n
    induction n with
    | zero => intro v1 v2 v3 v4 v5 M hf; exact absurd hf (by unfold f_X2_bestOther_b10; simp)
    | succ n ih =>
      intro v1 v2 v3 v4 v5 M hf
      unfold f_X2_bestOther_b10 at hf
      refine R_iload X 5 dX2_bestOther_10 rfl ?_
      refine R_aload_n X 0 dX2_bestOther_12 rfl rfl ?_
      refine R_getI X (j := 0) hk rfl inX2 (by decide) rfl rfl rfl wf_X2_37 dX2_bestOther_13 ?_
      obtain ⟨hq1, hf⟩ := zgrd hf
      obtain ⟨hq2, hf⟩ := zgrd hf
      refine R_icmp_ge X 64 ⟨hq1, hq2⟩ dX2_bestOther_16 (by decide) (fun c19 => ?_) (fun c19 => ?_)
      · have hf := zthen hf c19
        refine R_iload_n X 3 dX2_bestOther_64 rfl rfl ?_
        exact R_iret X hr hk0 dX2_bestOther_65 hf
      · have hf := zelse hf c19
        refine R_iload X 5 dX2_bestOther_19 rfl ?_
        refine R_iload_n X 1 dX2_bestOther_21 rfl rfl ?_
        obtain ⟨hq3, hf⟩ := zgrd hf
        refine R_icmp_eq X 58 ⟨hq1, hq3⟩ dX2_bestOther_22 (by decide) (fun c18 => ?_) (fun c18 => ?_)
        · have hf := zthen hf c18
          exact R_sub [0, 1, 2, 3, 4, 5] rfl (hB58 (f_X2_bestOther_b10 k n) ih v1 v2 v3 v4 v5 M hf)
        · have hf := zelse hf c18
          refine R_aload_n X 0 dX2_bestOther_25 rfl rfl ?_
          refine R_iload X 5 dX2_bestOther_26 rfl ?_
          obtain ⟨r4, M5, hc6, hf⟩ := zbnd_some hf
          refine R_callVi X (av := [.int (zI v5)]) (rest := []) (c_X2_hasRoom l D cas ad hi hk hc6) zy_X2_hasRoom hk rfl rfl wm_X2_61 rfl rfl ⟨Nat.le_of_ble_eq_true rfl, Nat.le_of_ble_eq_true rfl⟩ ⟨Nat.le_refl _, Nat.le_refl _⟩ (Nat.le_of_ble_eq_true rfl) dX2_bestOther_28 ?_
          obtain ⟨hq7, hf⟩ := zgrd hf
          refine R_if_eq X 58 hq7 dX2_bestOther_31 (by decide) (fun c17 => ?_) (fun c17 => ?_)
          · have hf := zthen hf c17
            exact R_sub [0, 1, 2, 3, 4, 5] rfl (hB58 (f_X2_bestOther_b10 k n) ih v1 v2 v3 v4 v5 M5 hf)
          · have hf := zelse hf c17
            refine R_aload_n X 0 dX2_bestOther_34 rfl rfl ?_
            refine R_iload X 5 dX2_bestOther_35 rfl ?_
            refine R_iload_n X 2 dX2_bestOther_37 rfl rfl ?_
            obtain ⟨r8, M9, hc10, hf⟩ := zbnd_some hf
            refine R_callVi X (av := [.int (zI v5), .int (zI v2)]) (rest := []) (c_X2_distance l D cas ad hi hk hc10) zy_X2_distance hk rfl rfl wm_X2_65 rfl rfl ⟨Nat.le_of_ble_eq_true rfl, Nat.le_of_ble_eq_true rfl⟩ ⟨Nat.le_refl _, Nat.le_refl _⟩ (Nat.le_of_ble_eq_true rfl) dX2_bestOther_38 ?_
            refine R_iload X 4 dX2_bestOther_41 rfl ?_
            obtain ⟨hq11, hf⟩ := zgrd hf
            obtain ⟨hq12, hf⟩ := zgrd hf
            refine R_icmp_ge X 58 ⟨hq11, hq12⟩ dX2_bestOther_43 (by decide) (fun c16 => ?_) (fun c16 => ?_)
            · have hf := zthen hf c16
              exact R_sub [0, 1, 2, 3, 4, 5] rfl (hB58 (f_X2_bestOther_b10 k n) ih v1 v2 v3 v4 v5 M9 hf)
            · have hf := zelse hf c16
              refine R_iload X 5 dX2_bestOther_46 rfl ?_
              refine R_istore_n X (lv' := [(3, .int (zI v5)), (0, .ref (ad k)), (1, .int (zI v1)), (2, .int (zI v2)), (4, .int (zI v4)), (5, .int (zI v5))]) dX2_bestOther_48 rfl (by decide) rfl ?_
              refine R_aload_n X 1 dX2_bestOther_49 rfl rfl ?_
              refine R_iload X 5 dX2_bestOther_50 rfl ?_
              refine R_iload_n X 3 dX2_bestOther_52 rfl rfl ?_
              obtain ⟨r13, M14, hc15, hf⟩ := zbnd_some hf
              refine R_callVi X (av := [.int (zI v5), .int (zI v2)]) (rest := []) (c_X2_distance l D cas ad hi hk hc15) zy_X2_distance hk rfl rfl wm_X2_65 rfl rfl ⟨Nat.le_of_ble_eq_true rfl, Nat.le_of_ble_eq_true rfl⟩ ⟨Nat.le_refl _, Nat.le_refl _⟩ (Nat.le_of_ble_eq_true rfl) dX2_bestOther_53 ?_
              refine R_istore X (lv' := [(4, .int (zI r13)), (3, .int (zI v5)), (0, .ref (ad k)), (1, .int (zI v1)), (2, .int (zI v2)), (5, .int (zI v5))]) dX2_bestOther_56 (by decide) rfl ?_
              exact R_sub [2, 3, 4, 1, 0, 5] rfl (hB58 (f_X2_bestOther_b10 k n) ih v1 v2 v5 r13 v5 M14 hf)
  unfold f_X2_bestOther at hf
  refine (?_ : WW p l e (zrm 2 43) s m args below meth c D cas ad (zA ad) 6 0 0 (MQ below (zQi D cas ad r M') args s 0 0 (zA ad)) 0 [(0, .ref (ad k)), (1, .int (zI v1)), (2, .int (zI v2))] [] M)
  refine R_bipush X dX2_bestOther_0 (by decide +kernel) ?_
  refine R_istore_n X (lv' := [(3, .int (zI (-5))), (0, .ref (ad k)), (1, .int (zI v1)), (2, .int (zI v2))]) dX2_bestOther_2 rfl (by decide) rfl ?_
  refine R_bipush X dX2_bestOther_3 (by decide +kernel) ?_
  refine R_istore X (lv' := [(4, .int (zI 91)), (3, .int (zI (-5))), (0, .ref (ad k)), (1, .int (zI v1)), (2, .int (zI v2))]) dX2_bestOther_5 (by decide) rfl ?_
  refine R_iconst X dX2_bestOther_7 ?_
  refine R_istore X (lv' := [(5, .int (zI 0)), (4, .int (zI 91)), (3, .int (zI (-5))), (0, .ref (ad k)), (1, .int (zI v1)), (2, .int (zI v2))]) dX2_bestOther_8 (by decide) rfl ?_
  exact R_sub [3, 4, 5, 2, 1, 0] rfl (hB10 100000 v1 v2 (-5) 91 0 M hf)
theorem dX7_driveHerd_0 : decode cX7_driveHerd 0 = .ok (.iconst 0, 1) := by decide +kernel
theorem dX7_driveHerd_1 : decode cX7_driveHerd 1 = .ok (.istore_n 1, 1) := by decide +kernel
theorem dX7_driveHerd_2 : decode cX7_driveHerd 2 = .ok (.aload_n 0, 1) := by decide +kernel
theorem dX7_driveHerd_3 : decode cX7_driveHerd 3 = .ok (.invokevirtual 142, 3) := by decide +kernel
theorem dX7_driveHerd_6 : decode cX7_driveHerd 6 = .ok (.istore_n 2, 1) := by decide +kernel
theorem dX7_driveHerd_7 : decode cX7_driveHerd 7 = .ok (.aload_n 0, 1) := by decide +kernel
theorem dX7_driveHerd_8 : decode cX7_driveHerd 8 = .ok (.getfield 46, 3) := by decide +kernel
theorem dX7_driveHerd_11 : decode cX7_driveHerd 11 = .ok (.aload_n 0, 1) := by decide +kernel
theorem dX7_driveHerd_12 : decode cX7_driveHerd 12 = .ok (.getfield 64, 3) := by decide +kernel
theorem dX7_driveHerd_15 : decode cX7_driveHerd 15 = .ok (.invokevirtual 145, 3) := by decide +kernel
theorem dX7_driveHerd_18 : decode cX7_driveHerd 18 = .ok (.iconst 0, 1) := by decide +kernel
theorem dX7_driveHerd_19 : decode cX7_driveHerd 19 = .ok (.istore_n 3, 1) := by decide +kernel
theorem dX7_driveHerd_20 : decode cX7_driveHerd 20 = .ok (.iload_n 3, 1) := by decide +kernel
theorem dX7_driveHerd_21 : decode cX7_driveHerd 21 = .ok (.bipush 16, 2) := by decide +kernel
theorem dX7_driveHerd_23 : decode cX7_driveHerd 23 = .ok (.if_icmp .ge 99, 3) := by decide +kernel
theorem dX7_driveHerd_26 : decode cX7_driveHerd 26 = .ok (.iload_n 1, 1) := by decide +kernel
theorem dX7_driveHerd_27 : decode cX7_driveHerd 27 = .ok (.aload_n 0, 1) := by decide +kernel
theorem dX7_driveHerd_28 : decode cX7_driveHerd 28 = .ok (.getfield 18, 3) := by decide +kernel
theorem dX7_driveHerd_31 : decode cX7_driveHerd 31 = .ok (.iconst 3, 1) := by decide +kernel
theorem dX7_driveHerd_32 : decode cX7_driveHerd 32 = .ok (.iaload, 1) := by decide +kernel
theorem dX7_driveHerd_33 : decode cX7_driveHerd 33 = .ok (.if_icmp .ge 89, 3) := by decide +kernel
theorem dX7_driveHerd_36 : decode cX7_driveHerd 36 = .ok (.aload_n 0, 1) := by decide +kernel
theorem dX7_driveHerd_37 : decode cX7_driveHerd 37 = .ok (.getfield 64, 3) := by decide +kernel
theorem dX7_driveHerd_40 : decode cX7_driveHerd 40 = .ok (.iload_n 3, 1) := by decide +kernel
theorem dX7_driveHerd_41 : decode cX7_driveHerd 41 = .ok (.iaload, 1) := by decide +kernel
theorem dX7_driveHerd_42 : decode cX7_driveHerd 42 = .ok (.istore 4, 2) := by decide +kernel
theorem dX7_driveHerd_44 : decode cX7_driveHerd 44 = .ok (.aload_n 0, 1) := by decide +kernel
theorem dX7_driveHerd_45 : decode cX7_driveHerd 45 = .ok (.getfield 46, 3) := by decide +kernel
theorem dX7_driveHerd_48 : decode cX7_driveHerd 48 = .ok (.getfield 149, 3) := by decide +kernel
theorem dX7_driveHerd_51 : decode cX7_driveHerd 51 = .ok (.iload 4, 2) := by decide +kernel
theorem dX7_driveHerd_53 : decode cX7_driveHerd 53 = .ok (.iaload, 1) := by decide +kernel
theorem dX7_driveHerd_54 : decode cX7_driveHerd 54 = .ok (.istore 5, 2) := by decide +kernel
theorem dX7_driveHerd_56 : decode cX7_driveHerd 56 = .ok (.aload_n 0, 1) := by decide +kernel
theorem dX7_driveHerd_57 : decode cX7_driveHerd 57 = .ok (.getfield 32, 3) := by decide +kernel
theorem dX7_driveHerd_60 : decode cX7_driveHerd 60 = .ok (.iload 5, 2) := by decide +kernel
theorem dX7_driveHerd_62 : decode cX7_driveHerd 62 = .ok (.iload_n 2, 1) := by decide +kernel
theorem dX7_driveHerd_63 : decode cX7_driveHerd 63 = .ok (.invokevirtual 150, 3) := by decide +kernel
theorem dX7_driveHerd_66 : decode cX7_driveHerd 66 = .ok (.istore 6, 2) := by decide +kernel
theorem dX7_driveHerd_68 : decode cX7_driveHerd 68 = .ok (.iload 6, 2) := by decide +kernel
theorem dX7_driveHerd_70 : decode cX7_driveHerd 70 = .ok (.bipush (-5), 2) := by decide +kernel
theorem dX7_driveHerd_72 : decode cX7_driveHerd 72 = .ok (.if_icmp .eq 44, 3) := by decide +kernel
theorem dX7_driveHerd_75 : decode cX7_driveHerd 75 = .ok (.aload_n 0, 1) := by decide +kernel
theorem dX7_driveHerd_76 : decode cX7_driveHerd 76 = .ok (.getfield 32, 3) := by decide +kernel
theorem dX7_driveHerd_79 : decode cX7_driveHerd 79 = .ok (.iload 5, 2) := by decide +kernel
theorem dX7_driveHerd_81 : decode cX7_driveHerd 81 = .ok (.iload_n 2, 1) := by decide +kernel
theorem dX7_driveHerd_82 : decode cX7_driveHerd 82 = .ok (.invokevirtual 153, 3) := by decide +kernel
theorem dX7_driveHerd_85 : decode cX7_driveHerd 85 = .ok (.aload_n 0, 1) := by decide +kernel
theorem dX7_driveHerd_86 : decode cX7_driveHerd 86 = .ok (.getfield 32, 3) := by decide +kernel
theorem dX7_driveHerd_89 : decode cX7_driveHerd 89 = .ok (.iload 6, 2) := by decide +kernel
theorem dX7_driveHerd_91 : decode cX7_driveHerd 91 = .ok (.iload_n 2, 1) := by decide +kernel
theorem dX7_driveHerd_92 : decode cX7_driveHerd 92 = .ok (.invokevirtual 153, 3) := by decide +kernel
theorem dX7_driveHerd_95 : decode cX7_driveHerd 95 = .ok (.isub, 1) := by decide +kernel
theorem dX7_driveHerd_96 : decode cX7_driveHerd 96 = .ok (.aload_n 0, 1) := by decide +kernel
theorem dX7_driveHerd_97 : decode cX7_driveHerd 97 = .ok (.getfield 18, 3) := by decide +kernel
theorem dX7_driveHerd_100 : decode cX7_driveHerd 100 = .ok (.iconst 2, 1) := by decide +kernel
theorem dX7_driveHerd_101 : decode cX7_driveHerd 101 = .ok (.iaload, 1) := by decide +kernel
theorem dX7_driveHerd_102 : decode cX7_driveHerd 102 = .ok (.if_icmp .lt 14, 3) := by decide +kernel
theorem dX7_driveHerd_105 : decode cX7_driveHerd 105 = .ok (.aload_n 0, 1) := by decide +kernel
theorem dX7_driveHerd_106 : decode cX7_driveHerd 106 = .ok (.iload 4, 2) := by decide +kernel
theorem dX7_driveHerd_108 : decode cX7_driveHerd 108 = .ok (.iload 6, 2) := by decide +kernel
theorem dX7_driveHerd_110 : decode cX7_driveHerd 110 = .ok (.invokevirtual 156, 3) := by decide +kernel
theorem dX7_driveHerd_113 : decode cX7_driveHerd 113 = .ok (.iinc 1 1, 3) := by decide +kernel
theorem dX7_driveHerd_116 : decode cX7_driveHerd 116 = .ok (.iinc 3 1, 3) := by decide +kernel
theorem dX7_driveHerd_119 : decode cX7_driveHerd 119 = .ok (.goto (-99), 3) := by decide +kernel
theorem dX7_driveHerd_122 : decode cX7_driveHerd 122 = .ok (.iload_n 1, 1) := by decide +kernel
theorem dX7_driveHerd_123 : decode cX7_driveHerd 123 = .ok (.ireturn, 1) := by decide +kernel
set_option maxRecDepth 100000 in
set_option maxHeartbeats 4000000 in
theorem c_X7_driveHerd (l : Launch) (D : va_G) (cas : Nat → ClassId) (ad : Nat → Nat) (hi : zInj ad) {k : Nat}  (hk : k < zN ∧ lay k = (0, 7)) {r : Int} {M M' : Mem} (hf : f_X7_driveHerd k M = some (r, M')) : zMi l D cas ad yX7_driveHerd cX7_driveHerd 7 (some .int) 3 68 [.ref (ad k)] M r M' := by
  refine zbody (by decide) (Nat.le_of_ble_eq_true rfl) hi ?_
  intro p e s m args below meth c X hr hk0
  have X : zX p s m args c cX7_driveHerd "ShardTrails$State" 7 D cas ad (zA ad) := X
  have hB116 : ∀ (g20 : Int → Int → Int → Mem → Option (Int × Mem)) (hg20 : ∀ (v1 v2 v3 : Int) (M : Mem), g20 v1 v2 v3 M = some (r, M') → WW p l e (zrm 3 68) s m args below meth c D cas ad (zA ad) 7 0 0 (MQ below (zQi D cas ad r M') args s 0 0 (zA ad)) 20 [(0, .ref (ad k)), (1, .int (zI v1)), (2, .int (zI v2)), (3, .int (zI v3))] [] M) (v1 v2 v3 : Int) (M : Mem), f_X7_driveHerd_b116 g20 k v1 v2 v3 M = some (r, M') → WW p l e (zrm 3 68) s m args below meth c D cas ad (zA ad) 7 0 0 (MQ below (zQi D cas ad r M') args s 0 0 (zA ad)) 116 [(0, .ref (ad k)), (1, .int (zI v1)), (2, .int (zI v2)), (3, .int (zI v3))] [] M := by
    intro g20 hg20 v1 v2 v3 M hf
    unfold f_X7_driveHerd_b116 at hf
    refine R_iinc X (lv' := [(3, .int (zI (v3 + 1))), (0, .ref (ad k)), (1, .int (zI v1)), (2, .int (zI v2))]) 3 dX7_driveHerd_116 rfl (by decide) rfl ?_
    refine R_goto X 20 dX7_driveHerd_119 (by decide) ?_
    exact R_sub [1, 2, 3, 0] rfl (hg20 v1 v2 (v3 + 1) M hf)
  have hB122 : ∀ (v1 : Int) (M : Mem), f_X7_driveHerd_b122 k v1 M = some (r, M') → WW p l e (zrm 3 68) s m args below meth c D cas ad (zA ad) 7 0 0 (MQ below (zQi D cas ad r M') args s 0 0 (zA ad)) 122 [(1, .int (zI v1))] [] M := by
    intro v1 M hf
    unfold f_X7_driveHerd_b122 at hf
    refine R_iload_n X 0 dX7_driveHerd_122 rfl rfl ?_
    exact R_iret X hr hk0 dX7_driveHerd_123 hf
  have hB20 : ∀ (n : Nat) (v1 v2 v3 : Int) (M : Mem), f_X7_driveHerd_b20 k n v1 v2 v3 M = some (r, M') → WW p l e (zrm 3 68) s m args below meth c D cas ad (zA ad) 7 0 0 (MQ below (zQi D cas ad r M') args s 0 0 (zA ad)) 20 [(0, .ref (ad k)), (1, .int (zI v1)), (2, .int (zI v2)), (3, .int (zI v3))] [] M := by
    intro n
    induction n with
    | zero => intro v1 v2 v3 M hf; exact absurd hf (by unfold f_X7_driveHerd_b20; simp)
    | succ n ih =>
      intro v1 v2 v3 M hf
      unfold f_X7_driveHerd_b20 at hf
      refine R_iload_n X 3 dX7_driveHerd_20 rfl rfl ?_
      refine R_bipush X dX7_driveHerd_21 (by decide +kernel) ?_
      obtain ⟨hq9, hf⟩ := zgrd hf
      refine R_icmp_ge X 122 ⟨hq9, (by decide)⟩ dX7_driveHerd_23 (by decide) (fun c39 => ?_) (fun c39 => ?_)
      · have hf := zthen hf c39
        exact R_sub [1] rfl (hB122 v1 M hf)
      · have hf := zelse hf c39
        refine R_iload_n X 1 dX7_driveHerd_26 rfl rfl ?_
        refine R_aload_n X 0 dX7_driveHerd_27 rfl rfl ?_
        have hp10 : k + 1 < zN ∧ lay (k + 1) = (1, 6) := pt_7_3 _ hk.1 hk.2
        refine R_getR X (j := 3) 1 (k + 1) hk rfl inX7 (by decide) rfl rfl (by decide) rfl rfl wf_X7_18 dX7_driveHerd_28 ?_
        refine R_iconst X dX7_driveHerd_31 ?_
        refine R_iald X hp10 (by decide) dX7_driveHerd_32 ?_
        obtain ⟨hq11, hf⟩ := zgrd hf
        obtain ⟨hq12, hf⟩ := zgrd hf
        refine R_icmp_ge X 122 ⟨hq11, hq12⟩ dX7_driveHerd_33 (by decide) (fun c38 => ?_) (fun c38 => ?_)
        · have hf := zthen hf c38
          exact R_sub [1] rfl (hB122 v1 M hf)
        · have hf := zelse hf c38
          refine R_aload_n X 0 dX7_driveHerd_36 rfl rfl ?_
          have hp13 : k + 28 < zN ∧ lay (k + 28) = (1, 16) := pt_7_10 _ hk.1 hk.2
          refine R_getR X (j := 10) 28 (k + 28) hk rfl inX7 (by decide) rfl rfl (by decide) rfl rfl wf_X7_64 dX7_driveHerd_37 ?_
          refine R_iload_n X 3 dX7_driveHerd_40 rfl rfl ?_
          obtain ⟨hq14, hf⟩ := zgrd hf
          refine R_iald X hp13 hq14 dX7_driveHerd_41 ?_
          obtain ⟨x15, ex15, hf⟩ := zlt_some hf
          refine R_istoreX X (lv' := [(4, .int (zI x15)), (0, .ref (ad k)), (1, .int (zI v1)), (2, .int (zI v2)), (3, .int (zI v3))]) ex15 dX7_driveHerd_42 (by decide) rfl ?_
          refine R_aload_n X 1 dX7_driveHerd_44 rfl rfl ?_
          have hp16 : k + 13 < zN ∧ lay (k + 13) = (0, 0) := pt_7_7 _ hk.1 hk.2
          refine R_getR X (j := 7) 13 (k + 13) hk rfl inX7 (by decide) rfl rfl (by decide) rfl rfl wf_X7_46 dX7_driveHerd_45 ?_
          have hp17 : k + 14 < zN ∧ lay (k + 14) = (1, 16) := pt_0_0 _ hp16.1 hp16.2
          refine R_getR X (j := 0) 1 (k + 14) hp16 rfl inX0 (by decide) rfl rfl (by decide) rfl rfl wf_X7_149 dX7_driveHerd_48 ?_
          refine R_iload X 0 dX7_driveHerd_51 rfl ?_
          obtain ⟨hq18, hf⟩ := zgrd hf
          refine R_iald X hp17 hq18 dX7_driveHerd_53 ?_
          obtain ⟨x19, ex19, hf⟩ := zlt_some hf
          refine R_istoreX X (lv' := [(5, .int (zI x19)), (4, .int (zI x15)), (0, .ref (ad k)), (1, .int (zI v1)), (2, .int (zI v2)), (3, .int (zI v3))]) ex19 dX7_driveHerd_54 (by decide) rfl ?_
          refine R_aload_n X 2 dX7_driveHerd_56 rfl rfl ?_
          have hp20 : k + 3 < zN ∧ lay (k + 3) = (0, 2) := pt_7_5 _ hk.1 hk.2
          refine R_getR X (j := 5) 3 (k + 3) hk rfl inX7 (by decide) rfl rfl (by decide) rfl rfl wf_X7_32 dX7_driveHerd_57 ?_
          refine R_iload X 0 dX7_driveHerd_60 rfl ?_
          refine R_iload_n X 4 dX7_driveHerd_62 rfl rfl ?_
          obtain ⟨r21, M22, hc23, hf⟩ := zbnd_some hf
          refine R_callVi X (av := [.int (zI x19), .int (zI v2)]) (rest := []) (c_X2_bestOther l D cas ad hi hp20 hc23) zy_X2_bestOther hp20 rfl rfl wm_X7_150 rfl rfl ⟨Nat.le_of_ble_eq_true rfl, Nat.le_of_ble_eq_true rfl⟩ ⟨Nat.le_refl _, Nat.le_refl _⟩ (Nat.le_of_ble_eq_true rfl) dX7_driveHerd_63 ?_
          refine R_istore X (lv' := [(6, .int (zI r21)), (5, .int (zI x19)), (4, .int (zI x15)), (0, .ref (ad k)), (1, .int (zI v1)), (2, .int (zI v2)), (3, .int (zI v3))]) dX7_driveHerd_66 (by decide) rfl ?_
          refine R_iload X 0 dX7_driveHerd_68 rfl ?_
          refine R_bipush X dX7_driveHerd_70 (by decide +kernel) ?_
          obtain ⟨hq24, hf⟩ := zgrd hf
          refine R_icmp_eq X 116 ⟨hq24, (by decide)⟩ dX7_driveHerd_72 (by decide) (fun c37 => ?_) (fun c37 => ?_)
          · have hf := zthen hf c37
            exact R_sub [3, 4, 5, 6] rfl (hB116 (f_X7_driveHerd_b20 k n) ih v1 v2 v3 M22 hf)
          · have hf := zelse hf c37
            refine R_aload_n X 3 dX7_driveHerd_75 rfl rfl ?_
            refine R_getR X (j := 5) 3 (k + 3) hk rfl inX7 (by decide) rfl rfl (by decide) rfl rfl wf_X7_32 dX7_driveHerd_76 ?_
            refine R_iload X 1 dX7_driveHerd_79 rfl ?_
            refine R_iload_n X 5 dX7_driveHerd_81 rfl rfl ?_
            obtain ⟨r25, M26, hc27, hf⟩ := zbnd_some hf
            refine R_callVi X (av := [.int (zI x19), .int (zI v2)]) (rest := []) (c_X2_distance l D cas ad hi hp20 hc27) zy_X2_distance hp20 rfl rfl wm_X7_153 rfl rfl ⟨Nat.le_of_ble_eq_true rfl, Nat.le_of_ble_eq_true rfl⟩ ⟨Nat.le_refl _, Nat.le_refl _⟩ (Nat.le_of_ble_eq_true rfl) dX7_driveHerd_82 ?_
            refine R_aload_n X 3 dX7_driveHerd_85 rfl rfl ?_
            refine R_getR X (j := 5) 3 (k + 3) hk rfl inX7 (by decide) rfl rfl (by decide) rfl rfl wf_X7_32 dX7_driveHerd_86 ?_
            refine R_iload X 0 dX7_driveHerd_89 rfl ?_
            refine R_iload_n X 5 dX7_driveHerd_91 rfl rfl ?_
            obtain ⟨r28, M29, hc30, hf⟩ := zbnd_some hf
            refine R_callVi X (av := [.int (zI r21), .int (zI v2)]) (rest := [.int (zI r25)]) (c_X2_distance l D cas ad hi hp20 hc30) zy_X2_distance hp20 rfl rfl wm_X7_153 rfl rfl ⟨Nat.le_of_ble_eq_true rfl, Nat.le_of_ble_eq_true rfl⟩ ⟨Nat.le_refl _, Nat.le_refl _⟩ (Nat.le_of_ble_eq_true rfl) dX7_driveHerd_92 ?_
            refine R_isub X dX7_driveHerd_95 ?_
            refine R_aload_n X 3 dX7_driveHerd_96 rfl rfl ?_
            refine R_getR X (j := 3) 1 (k + 1) hk rfl inX7 (by decide) rfl rfl (by decide) rfl rfl wf_X7_18 dX7_driveHerd_97 ?_
            refine R_iconst X dX7_driveHerd_100 ?_
            refine R_iald X hp10 (by decide) dX7_driveHerd_101 ?_
            obtain ⟨hq31, hf⟩ := zgrd hf
            obtain ⟨hq32, hf⟩ := zgrd hf
            refine R_icmp_lt X 116 ⟨hq31, hq32⟩ dX7_driveHerd_102 (by decide) (fun c36 => ?_) (fun c36 => ?_)
            · have hf := zthen hf c36
              exact R_sub [3, 4, 5, 6] rfl (hB116 (f_X7_driveHerd_b20 k n) ih v1 v2 v3 M29 hf)
            · have hf := zelse hf c36
              refine R_aload_n X 3 dX7_driveHerd_105 rfl rfl ?_
              refine R_iload X 2 dX7_driveHerd_106 rfl ?_
              refine R_iload X 0 dX7_driveHerd_108 rfl ?_
              obtain ⟨r33, M34, hc35, hf⟩ := zbnd_some hf
              refine R_callVv X (av := [.int (zI x15), .int (zI r21)]) (rest := []) (c_X7_drive l D cas ad hi hk hc35) zy_X7_drive hk rfl rfl wm_X7_156 rfl rfl ⟨Nat.le_of_ble_eq_true rfl, Nat.le_of_ble_eq_true rfl⟩ ⟨Nat.le_refl _, Nat.le_refl _⟩ (Nat.le_of_ble_eq_true rfl) dX7_driveHerd_110 ?_
              refine R_iinc X (lv' := [(1, .int (zI (v1 + 1))), (6, .int (zI r21)), (5, .int (zI x19)), (4, .int (zI x15)), (0, .ref (ad k)), (2, .int (zI v2)), (3, .int (zI v3))]) 4 dX7_driveHerd_113 rfl (by decide) rfl ?_
              exact R_sub [4, 0, 5, 6] rfl (hB116 (f_X7_driveHerd_b20 k n) ih (v1 + 1) v2 v3 M34 hf)
  unfold f_X7_driveHerd at hf
  refine (?_ : WW p l e (zrm 3 68) s m args below meth c D cas ad (zA ad) 7 0 0 (MQ below (zQi D cas ad r M') args s 0 0 (zA ad)) 0 [(0, .ref (ad k))] [] M)
  refine R_iconst X dX7_driveHerd_0 ?_
  refine R_istore_n X (lv' := [(1, .int (zI 0)), (0, .ref (ad k))]) dX7_driveHerd_1 rfl (by decide) rfl ?_
  refine R_aload_n X 1 dX7_driveHerd_2 rfl rfl ?_
  obtain ⟨r1, M2, hc3, hf⟩ := zbnd_some hf
  refine R_callVi X (av := []) (rest := []) (c_X7_seasonLatitude l D cas ad hi hk hc3) zy_X7_seasonLatitude hk rfl rfl wm_X7_142 rfl rfl ⟨Nat.le_of_ble_eq_true rfl, Nat.le_of_ble_eq_true rfl⟩ ⟨Nat.le_refl _, Nat.le_refl _⟩ (Nat.le_of_ble_eq_true rfl) dX7_driveHerd_3 ?_
  refine R_istore_n X (lv' := [(2, .int (zI r1)), (1, .int (zI 0)), (0, .ref (ad k))]) dX7_driveHerd_6 rfl (by decide) rfl ?_
  refine R_aload_n X 2 dX7_driveHerd_7 rfl rfl ?_
  have hp4 : k + 13 < zN ∧ lay (k + 13) = (0, 0) := pt_7_7 _ hk.1 hk.2
  refine R_getR X (j := 7) 13 (k + 13) hk rfl inX7 (by decide) rfl rfl (by decide) rfl rfl wf_X7_46 dX7_driveHerd_8 ?_
  refine R_aload_n X 2 dX7_driveHerd_11 rfl rfl ?_
  have hp5 : k + 28 < zN ∧ lay (k + 28) = (1, 16) := pt_7_10 _ hk.1 hk.2
  refine R_getR X (j := 10) 28 (k + 28) hk rfl inX7 (by decide) rfl rfl (by decide) rfl rfl wf_X7_64 dX7_driveHerd_12 ?_
  obtain ⟨r6, M7, hc8, hf⟩ := zbnd_some hf
  refine R_callVv X (av := [.ref (ad (k + 28))]) (rest := []) (c_X0_sortByHeat l D cas ad hi hp4 hp5 hc8) zy_X0_sortByHeat hp4 rfl rfl wm_X7_145 rfl rfl ⟨Nat.le_of_ble_eq_true rfl, Nat.le_of_ble_eq_true rfl⟩ ⟨Nat.le_refl _, Nat.le_refl _⟩ (Nat.le_of_ble_eq_true rfl) dX7_driveHerd_15 ?_
  refine R_iconst X dX7_driveHerd_18 ?_
  refine R_istore_n X (lv' := [(3, .int (zI 0)), (2, .int (zI r1)), (1, .int (zI 0)), (0, .ref (ad k))]) dX7_driveHerd_19 rfl (by decide) rfl ?_
  exact R_sub [3, 2, 1, 0] rfl (hB20 100000 0 r1 0 M7 hf)
theorem dX7_passDayOfHerd_0 : decode cX7_passDayOfHerd 0 = .ok (.aload_n 0, 1) := by decide +kernel
theorem dX7_passDayOfHerd_1 : decode cX7_passDayOfHerd 1 = .ok (.getfield 46, 3) := by decide +kernel
theorem dX7_passDayOfHerd_4 : decode cX7_passDayOfHerd 4 = .ok (.invokevirtual 101, 3) := by decide +kernel
theorem dX7_passDayOfHerd_7 : decode cX7_passDayOfHerd 7 = .ok (.aload_n 0, 1) := by decide +kernel
theorem dX7_passDayOfHerd_8 : decode cX7_passDayOfHerd 8 = .ok (.invokevirtual 110, 3) := by decide +kernel
theorem dX7_passDayOfHerd_11 : decode cX7_passDayOfHerd 11 = .ok (.pop, 1) := by decide +kernel
theorem dX7_passDayOfHerd_12 : decode cX7_passDayOfHerd 12 = .ok (.aload_n 0, 1) := by decide +kernel
theorem dX7_passDayOfHerd_13 : decode cX7_passDayOfHerd 13 = .ok (.dup, 1) := by decide +kernel
theorem dX7_passDayOfHerd_14 : decode cX7_passDayOfHerd 14 = .ok (.getfield 67, 3) := by decide +kernel
theorem dX7_passDayOfHerd_17 : decode cX7_passDayOfHerd 17 = .ok (.iconst 1, 1) := by decide +kernel
theorem dX7_passDayOfHerd_18 : decode cX7_passDayOfHerd 18 = .ok (.iadd, 1) := by decide +kernel
theorem dX7_passDayOfHerd_19 : decode cX7_passDayOfHerd 19 = .ok (.putfield 67, 3) := by decide +kernel
theorem dX7_passDayOfHerd_22 : decode cX7_passDayOfHerd 22 = .ok (.return_, 1) := by decide +kernel
set_option maxRecDepth 100000 in
set_option maxHeartbeats 4000000 in
theorem c_X7_passDayOfHerd (l : Launch) (D : va_G) (cas : Nat → ClassId) (ad : Nat → Nat) (hi : zInj ad) {k : Nat}  (hk : k < zN ∧ lay k = (0, 7)) {r : Int} {M M' : Mem} (hf : f_X7_passDayOfHerd k M = some (r, M')) : zMv l D cas ad yX7_passDayOfHerd cX7_passDayOfHerd 1 4 94 [.ref (ad k)] M M' := by
  refine zbody (by decide) (Nat.le_of_ble_eq_true rfl) hi ?_
  intro p e s m args below meth c X hr hk0
  have X : zX p s m args c cX7_passDayOfHerd "ShardTrails$State" 1 D cas ad (zA ad) := X
  unfold f_X7_passDayOfHerd at hf
  refine (?_ : WW p l e (zrm 4 94) s m args below meth c D cas ad (zA ad) 1 0 0 (MQ below (zQv D cas ad M') args s 0 0 (zA ad)) 0 [(0, .ref (ad k))] [] M)
  refine R_aload_n X 0 dX7_passDayOfHerd_0 rfl rfl ?_
  have hp1 : k + 13 < zN ∧ lay (k + 13) = (0, 0) := pt_7_7 _ hk.1 hk.2
  refine R_getR X (j := 7) 13 (k + 13) hk rfl inX7 (by decide) rfl rfl (by decide) rfl rfl wf_X7_46 dX7_passDayOfHerd_1 ?_
  obtain ⟨r2, M3, hc4, hf⟩ := zbnd_some hf
  refine R_callVv X (av := []) (rest := []) (c_X0_cool l D cas ad hi hp1 hc4) zy_X0_cool hp1 rfl rfl wm_X7_101 rfl rfl ⟨Nat.le_of_ble_eq_true rfl, Nat.le_of_ble_eq_true rfl⟩ ⟨Nat.le_refl _, Nat.le_refl _⟩ (Nat.le_of_ble_eq_true rfl) dX7_passDayOfHerd_4 ?_
  refine R_aload_n X 0 dX7_passDayOfHerd_7 rfl rfl ?_
  obtain ⟨r5, M6, hc7, hf⟩ := zbnd_some hf
  refine R_callVi X (av := []) (rest := []) (c_X7_driveHerd l D cas ad hi hk hc7) zy_X7_driveHerd hk rfl rfl wm_X7_110 rfl rfl ⟨Nat.le_of_ble_eq_true rfl, Nat.le_of_ble_eq_true rfl⟩ ⟨Nat.le_refl _, Nat.le_refl _⟩ (Nat.le_of_ble_eq_true rfl) dX7_passDayOfHerd_8 ?_
  refine R_pop X dX7_passDayOfHerd_11 rfl ?_
  refine R_aload_n X 0 dX7_passDayOfHerd_12 rfl rfl ?_
  refine R_dup X dX7_passDayOfHerd_13 rfl ?_
  refine R_getI X (j := 0) hk rfl inX7 (by decide) rfl rfl rfl wf_X7_67 dX7_passDayOfHerd_14 ?_
  refine R_iconst X dX7_passDayOfHerd_17 ?_
  refine R_iadd X dX7_passDayOfHerd_18 ?_
  obtain ⟨M8, eM8, hf⟩ := zlt_some hf
  refine R_put X (j := 0) hk rfl inX7 tyX7_ok nmX7 (by decide) rfl rfl rfl wf_X7_67 rfl (by decide +kernel) (z_nI _) (z_fI _) dX7_passDayOfHerd_19 ?_
  refine R_mem eM8 ?_
  exact R_vret X hr hk0 dX7_passDayOfHerd_22 hf

theorem dX9_reader_0 : decode cX9_reader 0 = .ok (.aload_n 0, 1) := by decide +kernel
theorem dX9_reader_1 : decode cX9_reader 1 = .ok (.iload_n 1, 1) := by decide +kernel
theorem dX9_reader_2 : decode cX9_reader 2 = .ok (.invokevirtual 155, 3) := by decide +kernel
theorem dX9_reader_5 : decode cX9_reader 5 = .ok (.ifCond .ne 5, 3) := by decide +kernel
theorem dX9_reader_8 : decode cX9_reader 8 = .ok (.iconst (-1), 1) := by decide +kernel
theorem dX9_reader_9 : decode cX9_reader 9 = .ok (.ireturn, 1) := by decide +kernel
theorem dX9_reader_10 : decode cX9_reader 10 = .ok (.iload_n 2, 1) := by decide +kernel
theorem dX9_reader_11 : decode cX9_reader 11 = .ok (.tableswitch 98 0 4 #[33, 46, 59, 72, 85], 33) := by decide +kernel
theorem dX9_reader_44 : decode cX9_reader 44 = .ok (.aload_n 0, 1) := by decide +kernel
theorem dX9_reader_45 : decode cX9_reader 45 = .ok (.getfield 12, 3) := by decide +kernel
theorem dX9_reader_48 : decode cX9_reader 48 = .ok (.getfield 99, 3) := by decide +kernel
theorem dX9_reader_51 : decode cX9_reader 51 = .ok (.getfield 255, 3) := by decide +kernel
theorem dX9_reader_54 : decode cX9_reader 54 = .ok (.iload_n 1, 1) := by decide +kernel
theorem dX9_reader_55 : decode cX9_reader 55 = .ok (.iaload, 1) := by decide +kernel
theorem dX9_reader_56 : decode cX9_reader 56 = .ok (.ireturn, 1) := by decide +kernel
theorem dX9_reader_57 : decode cX9_reader 57 = .ok (.aload_n 0, 1) := by decide +kernel
theorem dX9_reader_58 : decode cX9_reader 58 = .ok (.getfield 12, 3) := by decide +kernel
theorem dX9_reader_61 : decode cX9_reader 61 = .ok (.getfield 99, 3) := by decide +kernel
theorem dX9_reader_64 : decode cX9_reader 64 = .ok (.getfield 258, 3) := by decide +kernel
theorem dX9_reader_67 : decode cX9_reader 67 = .ok (.iload_n 1, 1) := by decide +kernel
theorem dX9_reader_68 : decode cX9_reader 68 = .ok (.iaload, 1) := by decide +kernel
theorem dX9_reader_69 : decode cX9_reader 69 = .ok (.ireturn, 1) := by decide +kernel
theorem dX9_reader_70 : decode cX9_reader 70 = .ok (.aload_n 0, 1) := by decide +kernel
theorem dX9_reader_71 : decode cX9_reader 71 = .ok (.getfield 12, 3) := by decide +kernel
theorem dX9_reader_74 : decode cX9_reader 74 = .ok (.getfield 99, 3) := by decide +kernel
theorem dX9_reader_77 : decode cX9_reader 77 = .ok (.getfield 261, 3) := by decide +kernel
theorem dX9_reader_80 : decode cX9_reader 80 = .ok (.iload_n 1, 1) := by decide +kernel
theorem dX9_reader_81 : decode cX9_reader 81 = .ok (.iaload, 1) := by decide +kernel
theorem dX9_reader_82 : decode cX9_reader 82 = .ok (.ireturn, 1) := by decide +kernel
theorem dX9_reader_83 : decode cX9_reader 83 = .ok (.aload_n 0, 1) := by decide +kernel
theorem dX9_reader_84 : decode cX9_reader 84 = .ok (.getfield 12, 3) := by decide +kernel
theorem dX9_reader_87 : decode cX9_reader 87 = .ok (.getfield 99, 3) := by decide +kernel
theorem dX9_reader_90 : decode cX9_reader 90 = .ok (.getfield 264, 3) := by decide +kernel
theorem dX9_reader_93 : decode cX9_reader 93 = .ok (.iload_n 1, 1) := by decide +kernel
theorem dX9_reader_94 : decode cX9_reader 94 = .ok (.iaload, 1) := by decide +kernel
theorem dX9_reader_95 : decode cX9_reader 95 = .ok (.ireturn, 1) := by decide +kernel
theorem dX9_reader_96 : decode cX9_reader 96 = .ok (.aload_n 0, 1) := by decide +kernel
theorem dX9_reader_97 : decode cX9_reader 97 = .ok (.getfield 12, 3) := by decide +kernel
theorem dX9_reader_100 : decode cX9_reader 100 = .ok (.getfield 99, 3) := by decide +kernel
theorem dX9_reader_103 : decode cX9_reader 103 = .ok (.getfield 267, 3) := by decide +kernel
theorem dX9_reader_106 : decode cX9_reader 106 = .ok (.iload_n 1, 1) := by decide +kernel
theorem dX9_reader_107 : decode cX9_reader 107 = .ok (.iaload, 1) := by decide +kernel
theorem dX9_reader_108 : decode cX9_reader 108 = .ok (.ireturn, 1) := by decide +kernel
theorem dX9_reader_109 : decode cX9_reader 109 = .ok (.bipush (-2), 2) := by decide +kernel
theorem dX9_reader_111 : decode cX9_reader 111 = .ok (.ireturn, 1) := by decide +kernel
set_option maxRecDepth 100000 in
set_option maxHeartbeats 4000000 in
theorem c_X9_reader (l : Launch) (D : va_G) (cas : Nat → ClassId) (ad : Nat → Nat) (hi : zInj ad) {v1 : Int} {v2 : Int}  {r : Int} {M M' : Mem} (hf : f_X9_reader v1 v2 M = some (r, M')) : zMi l D cas ad yX9_reader cX9_reader 3 (some .int) 2 43 [.ref (ad 0), .int (zI v1), .int (zI v2)] M r M' := by
  refine zbody (by decide) (Nat.le_of_ble_eq_true rfl) hi ?_
  intro p e s m args below meth c X hr hk0
  have X : zX p s m args c cX9_reader "ShardTrails" 3 D cas ad (zA ad) := X
  unfold f_X9_reader at hf
  refine (?_ : WW p l e (zrm 2 43) s m args below meth c D cas ad (zA ad) 3 0 0 (MQ below (zQi D cas ad r M') args s 0 0 (zA ad)) 0 [(0, .ref (ad 0)), (1, .int (zI v1)), (2, .int (zI v2))] [] M)
  refine R_aload_n X 0 dX9_reader_0 rfl rfl ?_
  refine R_iload_n X 1 dX9_reader_1 rfl rfl ?_
  obtain ⟨r1, M2, hc3, hf⟩ := zbnd_some hf
  refine R_callVi X (av := [.int (zI v1)]) (rest := []) (c_X9_isReader l D cas ad hi hc3) zy_X9_isReader lc_0 rfl rfl wm_X9_155 rfl rfl ⟨Nat.le_of_ble_eq_true rfl, Nat.le_of_ble_eq_true rfl⟩ ⟨Nat.le_refl _, Nat.le_refl _⟩ (Nat.le_of_ble_eq_true rfl) dX9_reader_2 ?_
  obtain ⟨hq4, hf⟩ := zgrd hf
  refine R_if_ne X 10 hq4 dX9_reader_5 (by decide) (fun c16 => ?_) (fun c16 => ?_)
  · have hf := zelse hf c16
    refine R_iload_n X 2 dX9_reader_10 rfl rfl ?_
    obtain ⟨hq5, hf⟩ := zgrd hf
    by_cases c7 : v2 = 0
    · have hf := zthen hf c7
      refine R_tableIn X (o := 33) 44 c7 dX9_reader_11 (by decide) (by decide) (by decide) (by decide +kernel) (by decide) ?_
      refine R_aload_n X 0 dX9_reader_44 rfl rfl ?_
      refine R_getR X (j := 0) 1 1 lc_0 rfl inX9 (by decide) rfl rfl (by decide) rfl rfl wf_X9_12 dX9_reader_45 ?_
      refine R_getR X (j := 9) 21 22 lc_1 rfl inX7 (by decide) rfl rfl (by decide) rfl rfl wf_X9_99 dX9_reader_48 ?_
      refine R_getR X (j := 1) 1 23 lc_22 rfl inX4 (by decide) rfl rfl (by decide) rfl rfl wf_X9_255 dX9_reader_51 ?_
      refine R_iload_n X 1 dX9_reader_54 rfl rfl ?_
      obtain ⟨hq6, hf⟩ := zgrd hf
      refine R_iald X lc_23 hq6 dX9_reader_55 ?_
      exact R_iret X hr hk0 dX9_reader_56 hf
    have hf := zelse hf c7
    by_cases c9 : v2 = 1
    · have hf := zthen hf c9
      refine R_tableIn X (o := 46) 57 c9 dX9_reader_11 (by decide) (by decide) (by decide) (by decide +kernel) (by decide) ?_
      refine R_aload_n X 0 dX9_reader_57 rfl rfl ?_
      refine R_getR X (j := 0) 1 1 lc_0 rfl inX9 (by decide) rfl rfl (by decide) rfl rfl wf_X9_12 dX9_reader_58 ?_
      refine R_getR X (j := 9) 21 22 lc_1 rfl inX7 (by decide) rfl rfl (by decide) rfl rfl wf_X9_99 dX9_reader_61 ?_
      refine R_getR X (j := 2) 2 24 lc_22 rfl inX4 (by decide) rfl rfl (by decide) rfl rfl wf_X9_258 dX9_reader_64 ?_
      refine R_iload_n X 1 dX9_reader_67 rfl rfl ?_
      obtain ⟨hq8, hf⟩ := zgrd hf
      refine R_iald X lc_24 hq8 dX9_reader_68 ?_
      exact R_iret X hr hk0 dX9_reader_69 hf
    have hf := zelse hf c9
    by_cases c11 : v2 = 2
    · have hf := zthen hf c11
      refine R_tableIn X (o := 59) 70 c11 dX9_reader_11 (by decide) (by decide) (by decide) (by decide +kernel) (by decide) ?_
      refine R_aload_n X 0 dX9_reader_70 rfl rfl ?_
      refine R_getR X (j := 0) 1 1 lc_0 rfl inX9 (by decide) rfl rfl (by decide) rfl rfl wf_X9_12 dX9_reader_71 ?_
      refine R_getR X (j := 9) 21 22 lc_1 rfl inX7 (by decide) rfl rfl (by decide) rfl rfl wf_X9_99 dX9_reader_74 ?_
      refine R_getR X (j := 3) 3 25 lc_22 rfl inX4 (by decide) rfl rfl (by decide) rfl rfl wf_X9_261 dX9_reader_77 ?_
      refine R_iload_n X 1 dX9_reader_80 rfl rfl ?_
      obtain ⟨hq10, hf⟩ := zgrd hf
      refine R_iald X lc_25 hq10 dX9_reader_81 ?_
      exact R_iret X hr hk0 dX9_reader_82 hf
    have hf := zelse hf c11
    by_cases c13 : v2 = 3
    · have hf := zthen hf c13
      refine R_tableIn X (o := 72) 83 c13 dX9_reader_11 (by decide) (by decide) (by decide) (by decide +kernel) (by decide) ?_
      refine R_aload_n X 0 dX9_reader_83 rfl rfl ?_
      refine R_getR X (j := 0) 1 1 lc_0 rfl inX9 (by decide) rfl rfl (by decide) rfl rfl wf_X9_12 dX9_reader_84 ?_
      refine R_getR X (j := 9) 21 22 lc_1 rfl inX7 (by decide) rfl rfl (by decide) rfl rfl wf_X9_99 dX9_reader_87 ?_
      refine R_getR X (j := 4) 4 26 lc_22 rfl inX4 (by decide) rfl rfl (by decide) rfl rfl wf_X9_264 dX9_reader_90 ?_
      refine R_iload_n X 1 dX9_reader_93 rfl rfl ?_
      obtain ⟨hq12, hf⟩ := zgrd hf
      refine R_iald X lc_26 hq12 dX9_reader_94 ?_
      exact R_iret X hr hk0 dX9_reader_95 hf
    have hf := zelse hf c13
    by_cases c15 : v2 = 4
    · have hf := zthen hf c15
      refine R_tableIn X (o := 85) 96 c15 dX9_reader_11 (by decide) (by decide) (by decide) (by decide +kernel) (by decide) ?_
      refine R_aload_n X 0 dX9_reader_96 rfl rfl ?_
      refine R_getR X (j := 0) 1 1 lc_0 rfl inX9 (by decide) rfl rfl (by decide) rfl rfl wf_X9_12 dX9_reader_97 ?_
      refine R_getR X (j := 9) 21 22 lc_1 rfl inX7 (by decide) rfl rfl (by decide) rfl rfl wf_X9_99 dX9_reader_100 ?_
      refine R_getR X (j := 5) 5 27 lc_22 rfl inX4 (by decide) rfl rfl (by decide) rfl rfl wf_X9_267 dX9_reader_103 ?_
      refine R_iload_n X 1 dX9_reader_106 rfl rfl ?_
      obtain ⟨hq14, hf⟩ := zgrd hf
      refine R_iald X lc_27 hq14 dX9_reader_107 ?_
      exact R_iret X hr hk0 dX9_reader_108 hf
    have hf := zelse hf c15
    refine R_tableOut X 109 hq5 dX9_reader_11 (by omega) (by decide) ?_
    refine R_bipush X dX9_reader_109 (by decide +kernel) ?_
    exact R_iret X hr hk0 dX9_reader_111 hf
  · have hf := zthen hf c16
    refine R_iconst X dX9_reader_8 ?_
    exact R_iret X hr hk0 dX9_reader_9 hf
theorem dX9_remembered_0 : decode cX9_remembered 0 = .ok (.aload_n 0, 1) := by decide +kernel
theorem dX9_remembered_1 : decode cX9_remembered 1 = .ok (.iload_n 1, 1) := by decide +kernel
theorem dX9_remembered_2 : decode cX9_remembered 2 = .ok (.invokevirtual 155, 3) := by decide +kernel
theorem dX9_remembered_5 : decode cX9_remembered 5 = .ok (.ifCond .eq 10, 3) := by decide +kernel
theorem dX9_remembered_8 : decode cX9_remembered 8 = .ok (.iload_n 2, 1) := by decide +kernel
theorem dX9_remembered_9 : decode cX9_remembered 9 = .ok (.invokestatic 127, 3) := by decide +kernel
theorem dX9_remembered_12 : decode cX9_remembered 12 = .ok (.ifCond .ne 5, 3) := by decide +kernel
theorem dX9_remembered_15 : decode cX9_remembered 15 = .ok (.iconst (-1), 1) := by decide +kernel
theorem dX9_remembered_16 : decode cX9_remembered 16 = .ok (.ireturn, 1) := by decide +kernel
theorem dX9_remembered_17 : decode cX9_remembered 17 = .ok (.aload_n 0, 1) := by decide +kernel
theorem dX9_remembered_18 : decode cX9_remembered 18 = .ok (.getfield 12, 3) := by decide +kernel
theorem dX9_remembered_21 : decode cX9_remembered 21 = .ok (.getfield 99, 3) := by decide +kernel
theorem dX9_remembered_24 : decode cX9_remembered 24 = .ok (.getfield 270, 3) := by decide +kernel
theorem dX9_remembered_27 : decode cX9_remembered 27 = .ok (.iload_n 1, 1) := by decide +kernel
theorem dX9_remembered_28 : decode cX9_remembered 28 = .ok (.iload_n 2, 1) := by decide +kernel
theorem dX9_remembered_29 : decode cX9_remembered 29 = .ok (.invokestatic 223, 3) := by decide +kernel
theorem dX9_remembered_32 : decode cX9_remembered 32 = .ok (.iaload, 1) := by decide +kernel
theorem dX9_remembered_33 : decode cX9_remembered 33 = .ok (.ireturn, 1) := by decide +kernel
set_option maxRecDepth 100000 in
set_option maxHeartbeats 4000000 in
theorem c_X9_remembered (l : Launch) (D : va_G) (cas : Nat → ClassId) (ad : Nat → Nat) (hi : zInj ad) {v1 : Int} {v2 : Int}  {r : Int} {M M' : Mem} (hf : f_X9_remembered v1 v2 M = some (r, M')) : zMi l D cas ad yX9_remembered cX9_remembered 3 (some .int) 2 43 [.ref (ad 0), .int (zI v1), .int (zI v2)] M r M' := by
  refine zbody (by decide) (Nat.le_of_ble_eq_true rfl) hi ?_
  intro p e s m args below meth c X hr hk0
  have X : zX p s m args c cX9_remembered "ShardTrails" 3 D cas ad (zA ad) := X
  have hB15 : ∀ (M : Mem), f_X9_remembered_b15 M = some (r, M') → WW p l e (zrm 2 43) s m args below meth c D cas ad (zA ad) 3 0 0 (MQ below (zQi D cas ad r M') args s 0 0 (zA ad)) 15 [] [] M := by
    intro M hf
    unfold f_X9_remembered_b15 at hf
    refine R_iconst X dX9_remembered_15 ?_
    exact R_iret X hr hk0 dX9_remembered_16 hf
  unfold f_X9_remembered at hf
  refine (?_ : WW p l e (zrm 2 43) s m args below meth c D cas ad (zA ad) 3 0 0 (MQ below (zQi D cas ad r M') args s 0 0 (zA ad)) 0 [(0, .ref (ad 0)), (1, .int (zI v1)), (2, .int (zI v2))] [] M)
  refine R_aload_n X 0 dX9_remembered_0 rfl rfl ?_
  refine R_iload_n X 1 dX9_remembered_1 rfl rfl ?_
  obtain ⟨r1, M2, hc3, hf⟩ := zbnd_some hf
  refine R_callVi X (av := [.int (zI v1)]) (rest := []) (c_X9_isReader l D cas ad hi hc3) zy_X9_isReader lc_0 rfl rfl wm_X9_155 rfl rfl ⟨Nat.le_of_ble_eq_true rfl, Nat.le_of_ble_eq_true rfl⟩ ⟨Nat.le_refl _, Nat.le_refl _⟩ (Nat.le_of_ble_eq_true rfl) dX9_remembered_2 ?_
  obtain ⟨hq4, hf⟩ := zgrd hf
  refine R_if_eq X 15 hq4 dX9_remembered_5 (by decide) (fun c14 => ?_) (fun c14 => ?_)
  · have hf := zthen hf c14
    exact R_sub [] rfl (hB15 M2 hf)
  · have hf := zelse hf c14
    refine R_iload_n X 2 dX9_remembered_8 rfl rfl ?_
    obtain ⟨r5, M6, hc7, hf⟩ := zbnd_some hf
    refine R_callSi X (av := [.int (zI v2)]) (rest := []) (c_X9_isShard l D cas ad hi hc7) zy_X9_isShard wm_X9_127 rfl rfl ⟨Nat.le_of_ble_eq_true rfl, Nat.le_of_ble_eq_true rfl⟩ ⟨Nat.le_refl _, Nat.le_refl _⟩ (Nat.le_of_ble_eq_true rfl) dX9_remembered_9 ?_
    obtain ⟨hq8, hf⟩ := zgrd hf
    refine R_if_ne X 17 hq8 dX9_remembered_12 (by decide) (fun c13 => ?_) (fun c13 => ?_)
    · have hf := zelse hf c13
      refine R_aload_n X 0 dX9_remembered_17 rfl rfl ?_
      refine R_getR X (j := 0) 1 1 lc_0 rfl inX9 (by decide) rfl rfl (by decide) rfl rfl wf_X9_12 dX9_remembered_18 ?_
      refine R_getR X (j := 9) 21 22 lc_1 rfl inX7 (by decide) rfl rfl (by decide) rfl rfl wf_X9_99 dX9_remembered_21 ?_
      refine R_getR X (j := 6) 6 28 lc_22 rfl inX4 (by decide) rfl rfl (by decide) rfl rfl wf_X9_270 dX9_remembered_24 ?_
      refine R_iload_n X 1 dX9_remembered_27 rfl rfl ?_
      refine R_iload_n X 2 dX9_remembered_28 rfl rfl ?_
      obtain ⟨r9, M10, hc11, hf⟩ := zbnd_some hf
      refine R_callSi X (av := [.int (zI v1), .int (zI v2)]) (rest := [.ref (ad 28)]) (c_X9_cell l D cas ad hi hc11) zy_X9_cell wm_X9_223 rfl rfl ⟨Nat.le_of_ble_eq_true rfl, Nat.le_of_ble_eq_true rfl⟩ ⟨Nat.le_refl _, Nat.le_refl _⟩ (Nat.le_of_ble_eq_true rfl) dX9_remembered_29 ?_
      obtain ⟨hq12, hf⟩ := zgrd hf
      refine R_iald X lc_28 hq12 dX9_remembered_32 ?_
      exact R_iret X hr hk0 dX9_remembered_33 hf
    · have hf := zthen hf c13
      exact R_sub [] rfl (hB15 M6 hf)
theorem dX9_request_0 : decode cX9_request 0 = .ok (.aload_n 0, 1) := by decide +kernel
theorem dX9_request_1 : decode cX9_request 1 = .ok (.iload_n 1, 1) := by decide +kernel
theorem dX9_request_2 : decode cX9_request 2 = .ok (.invokevirtual 155, 3) := by decide +kernel
theorem dX9_request_5 : decode cX9_request 5 = .ok (.ifCond .eq 10, 3) := by decide +kernel
theorem dX9_request_8 : decode cX9_request 8 = .ok (.iload_n 2, 1) := by decide +kernel
theorem dX9_request_9 : decode cX9_request 9 = .ok (.invokestatic 158, 3) := by decide +kernel
theorem dX9_request_12 : decode cX9_request 12 = .ok (.ifCond .ne 5, 3) := by decide +kernel
theorem dX9_request_15 : decode cX9_request 15 = .ok (.iconst (-1), 1) := by decide +kernel
theorem dX9_request_16 : decode cX9_request 16 = .ok (.ireturn, 1) := by decide +kernel
theorem dX9_request_17 : decode cX9_request 17 = .ok (.aload_n 0, 1) := by decide +kernel
theorem dX9_request_18 : decode cX9_request 18 = .ok (.getfield 25, 3) := by decide +kernel
theorem dX9_request_21 : decode cX9_request 21 = .ok (.aload_n 0, 1) := by decide +kernel
theorem dX9_request_22 : decode cX9_request 22 = .ok (.getfield 12, 3) := by decide +kernel
theorem dX9_request_25 : decode cX9_request 25 = .ok (.invokevirtual 57, 3) := by decide +kernel
theorem dX9_request_28 : decode cX9_request 28 = .ok (.aload_n 0, 1) := by decide +kernel
theorem dX9_request_29 : decode cX9_request 29 = .ok (.iload_n 1, 1) := by decide +kernel
theorem dX9_request_30 : decode cX9_request 30 = .ok (.iload_n 2, 1) := by decide +kernel
theorem dX9_request_31 : decode cX9_request 31 = .ok (.iconst (-1), 1) := by decide +kernel
theorem dX9_request_32 : decode cX9_request 32 = .ok (.invokevirtual 161, 3) := by decide +kernel
theorem dX9_request_35 : decode cX9_request 35 = .ok (.ireturn, 1) := by decide +kernel
set_option maxRecDepth 100000 in
set_option maxHeartbeats 4000000 in
theorem c_X9_request (l : Launch) (D : va_G) (cas : Nat → ClassId) (ad : Nat → Nat) (hi : zInj ad) {v1 : Int} {v2 : Int}  {r : Int} {M M' : Mem} (hf : f_X9_request v1 v2 M = some (r, M')) : zMi l D cas ad yX9_request cX9_request 3 (some .int) 6 144 [.ref (ad 0), .int (zI v1), .int (zI v2)] M r M' := by
  refine zbody (by decide) (Nat.le_of_ble_eq_true rfl) hi ?_
  intro p e s m args below meth c X hr hk0
  have X : zX p s m args c cX9_request "ShardTrails" 3 D cas ad (zA ad) := X
  have hB15 : ∀ (M : Mem), f_X9_request_b15 M = some (r, M') → WW p l e (zrm 6 144) s m args below meth c D cas ad (zA ad) 3 0 0 (MQ below (zQi D cas ad r M') args s 0 0 (zA ad)) 15 [] [] M := by
    intro M hf
    unfold f_X9_request_b15 at hf
    refine R_iconst X dX9_request_15 ?_
    exact R_iret X hr hk0 dX9_request_16 hf
  unfold f_X9_request at hf
  refine (?_ : WW p l e (zrm 6 144) s m args below meth c D cas ad (zA ad) 3 0 0 (MQ below (zQi D cas ad r M') args s 0 0 (zA ad)) 0 [(0, .ref (ad 0)), (1, .int (zI v1)), (2, .int (zI v2))] [] M)
  refine R_aload_n X 0 dX9_request_0 rfl rfl ?_
  refine R_iload_n X 1 dX9_request_1 rfl rfl ?_
  obtain ⟨r1, M2, hc3, hf⟩ := zbnd_some hf
  refine R_callVi X (av := [.int (zI v1)]) (rest := []) (c_X9_isReader l D cas ad hi hc3) zy_X9_isReader lc_0 rfl rfl wm_X9_155 rfl rfl ⟨Nat.le_of_ble_eq_true rfl, Nat.le_of_ble_eq_true rfl⟩ ⟨Nat.le_refl _, Nat.le_refl _⟩ (Nat.le_of_ble_eq_true rfl) dX9_request_2 ?_
  obtain ⟨hq4, hf⟩ := zgrd hf
  refine R_if_eq X 15 hq4 dX9_request_5 (by decide) (fun c16 => ?_) (fun c16 => ?_)
  · have hf := zthen hf c16
    exact R_sub [] rfl (hB15 M2 hf)
  · have hf := zelse hf c16
    refine R_iload_n X 2 dX9_request_8 rfl rfl ?_
    obtain ⟨r5, M6, hc7, hf⟩ := zbnd_some hf
    refine R_callSi X (av := [.int (zI v2)]) (rest := []) (c_X9_isKey l D cas ad hi hc7) zy_X9_isKey wm_X9_158 rfl rfl ⟨Nat.le_of_ble_eq_true rfl, Nat.le_of_ble_eq_true rfl⟩ ⟨Nat.le_refl _, Nat.le_refl _⟩ (Nat.le_of_ble_eq_true rfl) dX9_request_9 ?_
    obtain ⟨hq8, hf⟩ := zgrd hf
    refine R_if_ne X 17 hq8 dX9_request_12 (by decide) (fun c15 => ?_) (fun c15 => ?_)
    · have hf := zelse hf c15
      refine R_aload_n X 0 dX9_request_17 rfl rfl ?_
      refine R_getR X (j := 3) 88 88 lc_0 rfl inX9 (by decide) rfl rfl (by decide) rfl rfl wf_X9_25 dX9_request_18 ?_
      refine R_aload_n X 0 dX9_request_21 rfl rfl ?_
      refine R_getR X (j := 0) 1 1 lc_0 rfl inX9 (by decide) rfl rfl (by decide) rfl rfl wf_X9_12 dX9_request_22 ?_
      obtain ⟨r9, M10, hc11, hf⟩ := zbnd_some hf
      refine R_callVv X (av := [.ref (ad 1)]) (rest := []) (c_X1_store l D cas ad hi lc_1 hc11) zy_X1_store lc_88 rfl rfl wm_X9_57 rfl rfl ⟨Nat.le_of_ble_eq_true rfl, Nat.le_of_ble_eq_true rfl⟩ ⟨Nat.le_refl _, Nat.le_refl _⟩ (Nat.le_of_ble_eq_true rfl) dX9_request_25 ?_
      refine R_aload_n X 0 dX9_request_28 rfl rfl ?_
      refine R_iload_n X 1 dX9_request_29 rfl rfl ?_
      refine R_iload_n X 2 dX9_request_30 rfl rfl ?_
      refine R_iconst X dX9_request_31 ?_
      obtain ⟨r12, M13, hc14, hf⟩ := zbnd_some hf
      refine R_callVi X (av := [.int (zI v1), .int (zI v2), .int (zI (-1))]) (rest := []) (c_X9_serve l D cas ad hi hc14) zy_X9_serve lc_0 rfl rfl wm_X9_161 rfl rfl ⟨Nat.le_of_ble_eq_true rfl, Nat.le_of_ble_eq_true rfl⟩ ⟨Nat.le_refl _, Nat.le_refl _⟩ (Nat.le_of_ble_eq_true rfl) dX9_request_32 ?_
      exact R_iret X hr hk0 dX9_request_35 hf
    · have hf := zthen hf c15
      exact R_sub [] rfl (hB15 M6 hf)
theorem dX9_restore_0 : decode cX9_restore 0 = .ok (.aload_n 0, 1) := by decide +kernel
theorem dX9_restore_1 : decode cX9_restore 1 = .ok (.getfield 191, 3) := by decide +kernel
theorem dX9_restore_4 : decode cX9_restore 4 = .ok (.ifCond .ne 6, 3) := by decide +kernel
theorem dX9_restore_7 : decode cX9_restore 7 = .ok (.bipush (-5), 2) := by decide +kernel
theorem dX9_restore_9 : decode cX9_restore 9 = .ok (.ireturn, 1) := by decide +kernel
theorem dX9_restore_10 : decode cX9_restore 10 = .ok (.aload_n 0, 1) := by decide +kernel
theorem dX9_restore_11 : decode cX9_restore 11 = .ok (.getfield 25, 3) := by decide +kernel
theorem dX9_restore_14 : decode cX9_restore 14 = .ok (.aload_n 0, 1) := by decide +kernel
theorem dX9_restore_15 : decode cX9_restore 15 = .ok (.getfield 12, 3) := by decide +kernel
theorem dX9_restore_18 : decode cX9_restore 18 = .ok (.invokevirtual 57, 3) := by decide +kernel
theorem dX9_restore_21 : decode cX9_restore 21 = .ok (.aload_n 0, 1) := by decide +kernel
theorem dX9_restore_22 : decode cX9_restore 22 = .ok (.getfield 12, 3) := by decide +kernel
theorem dX9_restore_25 : decode cX9_restore 25 = .ok (.aload_n 0, 1) := by decide +kernel
theorem dX9_restore_26 : decode cX9_restore 26 = .ok (.getfield 19, 3) := by decide +kernel
theorem dX9_restore_29 : decode cX9_restore 29 = .ok (.invokevirtual 188, 3) := by decide +kernel
theorem dX9_restore_32 : decode cX9_restore 32 = .ok (.aload_n 0, 1) := by decide +kernel
theorem dX9_restore_33 : decode cX9_restore 33 = .ok (.getfield 12, 3) := by decide +kernel
theorem dX9_restore_36 : decode cX9_restore 36 = .ok (.getfield 121, 3) := by decide +kernel
theorem dX9_restore_39 : decode cX9_restore 39 = .ok (.ireturn, 1) := by decide +kernel
set_option maxRecDepth 100000 in
set_option maxHeartbeats 4000000 in
theorem c_X9_restore (l : Launch) (D : va_G) (cas : Nat → ClassId) (ad : Nat → Nat) (hi : zInj ad)   {r : Int} {M M' : Mem} (hf : f_X9_restore M = some (r, M')) : zMi l D cas ad yX9_restore cX9_restore 1 (some .int) 5 111 [.ref (ad 0)] M r M' := by
  refine zbody (by decide) (Nat.le_of_ble_eq_true rfl) hi ?_
  intro p e s m args below meth c X hr hk0
  have X : zX p s m args c cX9_restore "ShardTrails" 1 D cas ad (zA ad) := X
  unfold f_X9_restore at hf
  refine (?_ : WW p l e (zrm 5 111) s m args below meth c D cas ad (zA ad) 1 0 0 (MQ below (zQi D cas ad r M') args s 0 0 (zA ad)) 0 [(0, .ref (ad 0))] [] M)
  refine R_aload_n X 0 dX9_restore_0 rfl rfl ?_
  refine R_getI X (j := 6) lc_0 rfl inX9 (by decide) rfl rfl rfl wf_X9_191 dX9_restore_1 ?_
  obtain ⟨hq1, hf⟩ := zgrd hf
  refine R_if_ne X 10 hq1 dX9_restore_4 (by decide) (fun c8 => ?_) (fun c8 => ?_)
  · have hf := zelse hf c8
    refine R_aload_n X 0 dX9_restore_10 rfl rfl ?_
    refine R_getR X (j := 3) 88 88 lc_0 rfl inX9 (by decide) rfl rfl (by decide) rfl rfl wf_X9_25 dX9_restore_11 ?_
    refine R_aload_n X 0 dX9_restore_14 rfl rfl ?_
    refine R_getR X (j := 0) 1 1 lc_0 rfl inX9 (by decide) rfl rfl (by decide) rfl rfl wf_X9_12 dX9_restore_15 ?_
    obtain ⟨r2, M3, hc4, hf⟩ := zbnd_some hf
    refine R_callVv X (av := [.ref (ad 1)]) (rest := []) (c_X1_store l D cas ad hi lc_1 hc4) zy_X1_store lc_88 rfl rfl wm_X9_57 rfl rfl ⟨Nat.le_of_ble_eq_true rfl, Nat.le_of_ble_eq_true rfl⟩ ⟨Nat.le_refl _, Nat.le_refl _⟩ (Nat.le_of_ble_eq_true rfl) dX9_restore_18 ?_
    refine R_aload_n X 0 dX9_restore_21 rfl rfl ?_
    refine R_getR X (j := 0) 1 1 lc_0 rfl inX9 (by decide) rfl rfl (by decide) rfl rfl wf_X9_12 dX9_restore_22 ?_
    refine R_aload_n X 0 dX9_restore_25 rfl rfl ?_
    refine R_getR X (j := 2) 59 59 lc_0 rfl inX9 (by decide) rfl rfl (by decide) rfl rfl wf_X9_19 dX9_restore_26 ?_
    obtain ⟨r5, M6, hc7, hf⟩ := zbnd_some hf
    refine R_callVv X (av := [.ref (ad 59)]) (rest := []) (c_X7_copyFrom l D cas ad hi lc_1 lc_59 hc7) zy_X7_copyFrom lc_1 rfl rfl wm_X9_188 rfl rfl ⟨Nat.le_of_ble_eq_true rfl, Nat.le_of_ble_eq_true rfl⟩ ⟨Nat.le_refl _, Nat.le_refl _⟩ (Nat.le_of_ble_eq_true rfl) dX9_restore_29 ?_
    refine R_aload_n X 0 dX9_restore_32 rfl rfl ?_
    refine R_getR X (j := 0) 1 1 lc_0 rfl inX9 (by decide) rfl rfl (by decide) rfl rfl wf_X9_12 dX9_restore_33 ?_
    refine R_getI X (j := 0) lc_1 rfl inX7 (by decide) rfl rfl rfl wf_X9_121 dX9_restore_36 ?_
    exact R_iret X hr hk0 dX9_restore_39 hf
  · have hf := zthen hf c8
    refine R_bipush X dX9_restore_7 (by decide +kernel) ?_
    exact R_iret X hr hk0 dX9_restore_9 hf
theorem dX9_set_0 : decode cX9_set 0 = .ok (.iload_n 1, 1) := by decide +kernel
theorem dX9_set_1 : decode cX9_set 1 = .ok (.iconst 0, 1) := by decide +kernel
theorem dX9_set_2 : decode cX9_set 2 = .ok (.iconst 5, 1) := by decide +kernel
theorem dX9_set_3 : decode cX9_set 3 = .ok (.invokestatic 43, 3) := by decide +kernel
theorem dX9_set_6 : decode cX9_set 6 = .ok (.ifCond .ne 6, 3) := by decide +kernel
theorem dX9_set_9 : decode cX9_set 9 = .ok (.bipush (-2), 2) := by decide +kernel
theorem dX9_set_11 : decode cX9_set 11 = .ok (.ireturn, 1) := by decide +kernel
theorem dX9_set_12 : decode cX9_set 12 = .ok (.iload_n 2, 1) := by decide +kernel
theorem dX9_set_13 : decode cX9_set 13 = .ok (.getstatic 112, 3) := by decide +kernel
theorem dX9_set_16 : decode cX9_set 16 = .ok (.iload_n 1, 1) := by decide +kernel
theorem dX9_set_17 : decode cX9_set 17 = .ok (.iaload, 1) := by decide +kernel
theorem dX9_set_18 : decode cX9_set 18 = .ok (.getstatic 115, 3) := by decide +kernel
theorem dX9_set_21 : decode cX9_set 21 = .ok (.iload_n 1, 1) := by decide +kernel
theorem dX9_set_22 : decode cX9_set 22 = .ok (.iaload, 1) := by decide +kernel
theorem dX9_set_23 : decode cX9_set 23 = .ok (.invokestatic 43, 3) := by decide +kernel
theorem dX9_set_26 : decode cX9_set 26 = .ok (.ifCond .ne 6, 3) := by decide +kernel
theorem dX9_set_29 : decode cX9_set 29 = .ok (.bipush (-2), 2) := by decide +kernel
theorem dX9_set_31 : decode cX9_set 31 = .ok (.ireturn, 1) := by decide +kernel
theorem dX9_set_32 : decode cX9_set 32 = .ok (.aload_n 0, 1) := by decide +kernel
theorem dX9_set_33 : decode cX9_set 33 = .ok (.getfield 12, 3) := by decide +kernel
theorem dX9_set_36 : decode cX9_set 36 = .ok (.getfield 118, 3) := by decide +kernel
theorem dX9_set_39 : decode cX9_set 39 = .ok (.iload_n 1, 1) := by decide +kernel
theorem dX9_set_40 : decode cX9_set 40 = .ok (.iaload, 1) := by decide +kernel
theorem dX9_set_41 : decode cX9_set 41 = .ok (.istore_n 3, 1) := by decide +kernel
theorem dX9_set_42 : decode cX9_set 42 = .ok (.iload_n 3, 1) := by decide +kernel
theorem dX9_set_43 : decode cX9_set 43 = .ok (.iload_n 2, 1) := by decide +kernel
theorem dX9_set_44 : decode cX9_set 44 = .ok (.if_icmp .ne 6, 3) := by decide +kernel
theorem dX9_set_47 : decode cX9_set 47 = .ok (.bipush (-5), 2) := by decide +kernel
theorem dX9_set_49 : decode cX9_set 49 = .ok (.ireturn, 1) := by decide +kernel
theorem dX9_set_50 : decode cX9_set 50 = .ok (.aload_n 0, 1) := by decide +kernel
theorem dX9_set_51 : decode cX9_set 51 = .ok (.getfield 25, 3) := by decide +kernel
theorem dX9_set_54 : decode cX9_set 54 = .ok (.aload_n 0, 1) := by decide +kernel
theorem dX9_set_55 : decode cX9_set 55 = .ok (.getfield 12, 3) := by decide +kernel
theorem dX9_set_58 : decode cX9_set 58 = .ok (.invokevirtual 57, 3) := by decide +kernel
theorem dX9_set_61 : decode cX9_set 61 = .ok (.aload_n 0, 1) := by decide +kernel
theorem dX9_set_62 : decode cX9_set 62 = .ok (.getfield 12, 3) := by decide +kernel
theorem dX9_set_65 : decode cX9_set 65 = .ok (.getfield 118, 3) := by decide +kernel
theorem dX9_set_68 : decode cX9_set 68 = .ok (.iload_n 1, 1) := by decide +kernel
theorem dX9_set_69 : decode cX9_set 69 = .ok (.iload_n 2, 1) := by decide +kernel
theorem dX9_set_70 : decode cX9_set 70 = .ok (.iastore, 1) := by decide +kernel
theorem dX9_set_71 : decode cX9_set 71 = .ok (.iload_n 3, 1) := by decide +kernel
theorem dX9_set_72 : decode cX9_set 72 = .ok (.ireturn, 1) := by decide +kernel
set_option maxRecDepth 100000 in
set_option maxHeartbeats 4000000 in
theorem c_X9_set (l : Launch) (D : va_G) (cas : Nat → ClassId) (ad : Nat → Nat) (hi : zInj ad) {v1 : Int} {v2 : Int}  {r : Int} {M M' : Mem} (hf : f_X9_set v1 v2 M = some (r, M')) : zMi l D cas ad yX9_set cX9_set 4 (some .int) 5 111 [.ref (ad 0), .int (zI v1), .int (zI v2)] M r M' := by
  refine zbody (by decide) (Nat.le_of_ble_eq_true rfl) hi ?_
  intro p e s m args below meth c X hr hk0
  have X : zX p s m args c cX9_set "ShardTrails" 4 D cas ad (zA ad) := X
  unfold f_X9_set at hf
  refine (?_ : WW p l e (zrm 5 111) s m args below meth c D cas ad (zA ad) 4 0 0 (MQ below (zQi D cas ad r M') args s 0 0 (zA ad)) 0 [(0, .ref (ad 0)), (1, .int (zI v1)), (2, .int (zI v2))] [] M)
  refine R_iload_n X 1 dX9_set_0 rfl rfl ?_
  refine R_iconst X dX9_set_1 ?_
  refine R_iconst X dX9_set_2 ?_
  obtain ⟨r1, M2, hc3, hf⟩ := zbnd_some hf
  refine R_callSi X (av := [.int (zI v1), .int (zI 0), .int (zI 5)]) (rest := []) (c_X9_isWithin l D cas ad hi hc3) zy_X9_isWithin wm_X9_43 rfl rfl ⟨Nat.le_of_ble_eq_true rfl, Nat.le_of_ble_eq_true rfl⟩ ⟨Nat.le_refl _, Nat.le_refl _⟩ (Nat.le_of_ble_eq_true rfl) dX9_set_3 ?_
  obtain ⟨hq4, hf⟩ := zgrd hf
  refine R_if_ne X 12 hq4 dX9_set_6 (by decide) (fun c21 => ?_) (fun c21 => ?_)
  · have hf := zelse hf c21
    refine R_iload_n X 2 dX9_set_12 rfl rfl ?_
    refine R_gets X X.2.2.2.2.2.2.2.2.2.1 wf_X9_112 dX9_set_13 (fun u5 hu5 => ?_)
    refine R_iload_n X 1 dX9_set_16 rfl rfl ?_
    obtain ⟨hq6, hf⟩ := zgrd hf
    refine R_tald X hu5 (by decide) hq6 dX9_set_17 ?_
    refine R_gets X X.2.2.2.2.2.2.2.2.2.2.1 wf_X9_115 dX9_set_18 (fun u7 hu7 => ?_)
    refine R_iload_n X 1 dX9_set_21 rfl rfl ?_
    refine R_tald X hu7 (by decide) hq6 dX9_set_22 ?_
    obtain ⟨r8, M9, hc10, hf⟩ := zbnd_some hf
    refine R_callSi X (av := [.int (zI v2), .int (zI (zR0 v1.toNat)), .int (zI (zR1 v1.toNat))]) (rest := []) (c_X9_isWithin l D cas ad hi hc10) zy_X9_isWithin wm_X9_43 rfl rfl ⟨Nat.le_of_ble_eq_true rfl, Nat.le_of_ble_eq_true rfl⟩ ⟨Nat.le_refl _, Nat.le_refl _⟩ (Nat.le_of_ble_eq_true rfl) dX9_set_23 ?_
    obtain ⟨hq11, hf⟩ := zgrd hf
    refine R_if_ne X 32 hq11 dX9_set_26 (by decide) (fun c20 => ?_) (fun c20 => ?_)
    · have hf := zelse hf c20
      refine R_aload_n X 0 dX9_set_32 rfl rfl ?_
      refine R_getR X (j := 0) 1 1 lc_0 rfl inX9 (by decide) rfl rfl (by decide) rfl rfl wf_X9_12 dX9_set_33 ?_
      refine R_getR X (j := 3) 1 2 lc_1 rfl inX7 (by decide) rfl rfl (by decide) rfl rfl wf_X9_118 dX9_set_36 ?_
      refine R_iload_n X 1 dX9_set_39 rfl rfl ?_
      refine R_iald X lc_2 hq6 dX9_set_40 ?_
      obtain ⟨x12, ex12, hf⟩ := zlt_some hf
      refine R_istore_nX X (lv' := [(3, .int (zI x12)), (0, .ref (ad 0)), (1, .int (zI v1)), (2, .int (zI v2))]) ex12 dX9_set_41 rfl (by decide) rfl ?_
      refine R_iload_n X 0 dX9_set_42 rfl rfl ?_
      refine R_iload_n X 3 dX9_set_43 rfl rfl ?_
      obtain ⟨hq13, hf⟩ := zgrd hf
      obtain ⟨hq14, hf⟩ := zgrd hf
      refine R_icmp_ne X 50 ⟨hq13, hq14⟩ dX9_set_44 (by decide) (fun c19 => ?_) (fun c19 => ?_)
      · have hf := zelse hf c19
        refine R_aload_n X 1 dX9_set_50 rfl rfl ?_
        refine R_getR X (j := 3) 88 88 lc_0 rfl inX9 (by decide) rfl rfl (by decide) rfl rfl wf_X9_25 dX9_set_51 ?_
        refine R_aload_n X 1 dX9_set_54 rfl rfl ?_
        refine R_getR X (j := 0) 1 1 lc_0 rfl inX9 (by decide) rfl rfl (by decide) rfl rfl wf_X9_12 dX9_set_55 ?_
        obtain ⟨r15, M16, hc17, hf⟩ := zbnd_some hf
        refine R_callVv X (av := [.ref (ad 1)]) (rest := []) (c_X1_store l D cas ad hi lc_1 hc17) zy_X1_store lc_88 rfl rfl wm_X9_57 rfl rfl ⟨Nat.le_of_ble_eq_true rfl, Nat.le_of_ble_eq_true rfl⟩ ⟨Nat.le_refl _, Nat.le_refl _⟩ (Nat.le_of_ble_eq_true rfl) dX9_set_58 ?_
        refine R_aload_n X 1 dX9_set_61 rfl rfl ?_
        refine R_getR X (j := 0) 1 1 lc_0 rfl inX9 (by decide) rfl rfl (by decide) rfl rfl wf_X9_12 dX9_set_62 ?_
        refine R_getR X (j := 3) 1 2 lc_1 rfl inX7 (by decide) rfl rfl (by decide) rfl rfl wf_X9_118 dX9_set_65 ?_
        refine R_iload_n X 2 dX9_set_68 rfl rfl ?_
        refine R_iload_n X 3 dX9_set_69 rfl rfl ?_
        obtain ⟨M18, eM18, hf⟩ := zlt_some hf
        refine R_iast X lc_2 hq6 dX9_set_70 ?_
        refine R_mem eM18 ?_
        refine R_iload_n X 0 dX9_set_71 rfl rfl ?_
        exact R_iret X hr hk0 dX9_set_72 hf
      · have hf := zthen hf c19
        refine R_bipush X dX9_set_47 (by decide +kernel) ?_
        exact R_iret X hr hk0 dX9_set_49 hf
    · have hf := zthen hf c20
      refine R_bipush X dX9_set_29 (by decide +kernel) ?_
      exact R_iret X hr hk0 dX9_set_31 hf
  · have hf := zthen hf c21
    refine R_bipush X dX9_set_9 (by decide +kernel) ?_
    exact R_iret X hr hk0 dX9_set_11 hf
theorem dX2_forgetPosted_0 : decode cX2_forgetPosted 0 = .ok (.iconst 0, 1) := by decide +kernel
theorem dX2_forgetPosted_1 : decode cX2_forgetPosted 1 = .ok (.istore_n 2, 1) := by decide +kernel
theorem dX2_forgetPosted_2 : decode cX2_forgetPosted 2 = .ok (.iload_n 2, 1) := by decide +kernel
theorem dX2_forgetPosted_3 : decode cX2_forgetPosted 3 = .ok (.bipush 16, 2) := by decide +kernel
theorem dX2_forgetPosted_5 : decode cX2_forgetPosted 5 = .ok (.if_icmp .ge 21, 3) := by decide +kernel
theorem dX2_forgetPosted_8 : decode cX2_forgetPosted 8 = .ok (.aload_n 0, 1) := by decide +kernel
theorem dX2_forgetPosted_9 : decode cX2_forgetPosted 9 = .ok (.getfield 28, 3) := by decide +kernel
theorem dX2_forgetPosted_12 : decode cX2_forgetPosted 12 = .ok (.iload_n 1, 1) := by decide +kernel
theorem dX2_forgetPosted_13 : decode cX2_forgetPosted 13 = .ok (.iload_n 2, 1) := by decide +kernel
theorem dX2_forgetPosted_14 : decode cX2_forgetPosted 14 = .ok (.invokestatic 51, 3) := by decide +kernel
theorem dX2_forgetPosted_17 : decode cX2_forgetPosted 17 = .ok (.bipush (-5), 2) := by decide +kernel
theorem dX2_forgetPosted_19 : decode cX2_forgetPosted 19 = .ok (.iastore, 1) := by decide +kernel
theorem dX2_forgetPosted_20 : decode cX2_forgetPosted 20 = .ok (.iinc 2 1, 3) := by decide +kernel
theorem dX2_forgetPosted_23 : decode cX2_forgetPosted 23 = .ok (.goto (-21), 3) := by decide +kernel
theorem dX2_forgetPosted_26 : decode cX2_forgetPosted 26 = .ok (.return_, 1) := by decide +kernel
set_option maxRecDepth 100000 in
set_option maxHeartbeats 4000000 in
theorem c_X2_forgetPosted (l : Launch) (D : va_G) (cas : Nat → ClassId) (ad : Nat → Nat) (hi : zInj ad) {k : Nat} {v1 : Int} (hk : k < zN ∧ lay k = (0, 2)) {r : Int} {M M' : Mem} (hf : f_X2_forgetPosted k v1 M = some (r, M')) : zMv l D cas ad yX2_forgetPosted cX2_forgetPosted 3 1 21 [.ref (ad k), .int (zI v1)] M M' := by
  refine zbody (by decide) (Nat.le_of_ble_eq_true rfl) hi ?_
  intro p e s m args below meth c X hr hk0
  have X : zX p s m args c cX2_forgetPosted "ShardTrails$Land" 3 D cas ad (zA ad) := X
  have hB2 : ∀ (n : Nat) (v1 v2 : Int) (M : Mem), f_X2_forgetPosted_b2 k n v1 v2 M = some (r, M') → WW p l e (zrm 1 21) s m args below meth c D cas ad (zA ad) 3 0 0 (MQ below (zQv D cas ad M') args s 0 0 (zA ad)) 2 [(0, .ref (ad k)), (1, .int (zI v1)), (2, .int (zI v2))] [] M := by
    intro n
    induction n with
    | zero => intro v1 v2 M hf; exact absurd hf (by unfold f_X2_forgetPosted_b2; simp)
    | succ n ih =>
      intro v1 v2 M hf
      unfold f_X2_forgetPosted_b2 at hf
      refine R_iload_n X 2 dX2_forgetPosted_2 rfl rfl ?_
      refine R_bipush X dX2_forgetPosted_3 (by decide +kernel) ?_
      obtain ⟨hq1, hf⟩ := zgrd hf
      refine R_icmp_ge X 26 ⟨hq1, (by decide)⟩ dX2_forgetPosted_5 (by decide) (fun c8 => ?_) (fun c8 => ?_)
      · have hf := zthen hf c8
        exact R_vret X hr hk0 dX2_forgetPosted_26 hf
      · have hf := zelse hf c8
        refine R_aload_n X 0 dX2_forgetPosted_8 rfl rfl ?_
        have hp2 : k + 6 < zN ∧ lay (k + 6) = (1, 128) := pt_2_6 _ hk.1 hk.2
        refine R_getR X (j := 6) 6 (k + 6) hk rfl inX2 (by decide) rfl rfl (by decide) rfl rfl wf_X2_28 dX2_forgetPosted_9 ?_
        refine R_iload_n X 1 dX2_forgetPosted_12 rfl rfl ?_
        refine R_iload_n X 2 dX2_forgetPosted_13 rfl rfl ?_
        obtain ⟨r3, M4, hc5, hf⟩ := zbnd_some hf
        refine R_callNi X (av := [.int (zI v1), .int (zI v2)]) (rest := [.ref (ad (k + 6))]) (c_X9_cell l D cas ad hi hc5) zy_X9_cell wn_X2_51 rfl rfl ⟨Nat.le_of_ble_eq_true rfl, Nat.le_of_ble_eq_true rfl⟩ ⟨Nat.le_refl _, Nat.le_refl _⟩ (Nat.le_of_ble_eq_true rfl) dX2_forgetPosted_14 ?_
        refine R_bipush X dX2_forgetPosted_17 (by decide +kernel) ?_
        obtain ⟨hq6, hf⟩ := zgrd hf
        obtain ⟨M7, eM7, hf⟩ := zlt_some hf
        refine R_iast X hp2 hq6 dX2_forgetPosted_19 ?_
        refine R_mem eM7 ?_
        refine R_iinc X (lv' := [(2, .int (zI (v2 + 1))), (0, .ref (ad k)), (1, .int (zI v1))]) 2 dX2_forgetPosted_20 rfl (by decide) rfl ?_
        refine R_goto X 2 dX2_forgetPosted_23 (by decide) ?_
        exact R_sub [1, 2, 0] rfl (ih v1 (v2 + 1) M7 hf)
  unfold f_X2_forgetPosted at hf
  refine (?_ : WW p l e (zrm 1 21) s m args below meth c D cas ad (zA ad) 3 0 0 (MQ below (zQv D cas ad M') args s 0 0 (zA ad)) 0 [(0, .ref (ad k)), (1, .int (zI v1))] [] M)
  refine R_iconst X dX2_forgetPosted_0 ?_
  refine R_istore_n X (lv' := [(2, .int (zI 0)), (0, .ref (ad k)), (1, .int (zI v1))]) dX2_forgetPosted_1 rfl (by decide) rfl ?_
  exact R_sub [1, 2, 0] rfl (hB2 100000 v1 0 M hf)
theorem dX9_setInn_0 : decode cX9_setInn 0 = .ok (.aload_n 0, 1) := by decide +kernel
theorem dX9_setInn_1 : decode cX9_setInn 1 = .ok (.iload_n 1, 1) := by decide +kernel
theorem dX9_setInn_2 : decode cX9_setInn 2 = .ok (.invokevirtual 65, 3) := by decide +kernel
theorem dX9_setInn_5 : decode cX9_setInn 5 = .ok (.ifCond .ne 5, 3) := by decide +kernel
theorem dX9_setInn_8 : decode cX9_setInn 8 = .ok (.iconst (-1), 1) := by decide +kernel
theorem dX9_setInn_9 : decode cX9_setInn 9 = .ok (.ireturn, 1) := by decide +kernel
theorem dX9_setInn_10 : decode cX9_setInn 10 = .ok (.aload_n 0, 1) := by decide +kernel
theorem dX9_setInn_11 : decode cX9_setInn 11 = .ok (.getfield 12, 3) := by decide +kernel
theorem dX9_setInn_14 : decode cX9_setInn 14 = .ok (.getfield 47, 3) := by decide +kernel
theorem dX9_setInn_17 : decode cX9_setInn 17 = .ok (.getfield 76, 3) := by decide +kernel
theorem dX9_setInn_20 : decode cX9_setInn 20 = .ok (.iload_n 1, 1) := by decide +kernel
theorem dX9_setInn_21 : decode cX9_setInn 21 = .ok (.baload, 1) := by decide +kernel
theorem dX9_setInn_22 : decode cX9_setInn 22 = .ok (.iload_n 2, 1) := by decide +kernel
theorem dX9_setInn_23 : decode cX9_setInn 23 = .ok (.if_icmp .ne 6, 3) := by decide +kernel
theorem dX9_setInn_26 : decode cX9_setInn 26 = .ok (.bipush (-5), 2) := by decide +kernel
theorem dX9_setInn_28 : decode cX9_setInn 28 = .ok (.ireturn, 1) := by decide +kernel
theorem dX9_setInn_29 : decode cX9_setInn 29 = .ok (.aload_n 0, 1) := by decide +kernel
theorem dX9_setInn_30 : decode cX9_setInn 30 = .ok (.getfield 25, 3) := by decide +kernel
theorem dX9_setInn_33 : decode cX9_setInn 33 = .ok (.aload_n 0, 1) := by decide +kernel
theorem dX9_setInn_34 : decode cX9_setInn 34 = .ok (.getfield 12, 3) := by decide +kernel
theorem dX9_setInn_37 : decode cX9_setInn 37 = .ok (.invokevirtual 57, 3) := by decide +kernel
theorem dX9_setInn_40 : decode cX9_setInn 40 = .ok (.aload_n 0, 1) := by decide +kernel
theorem dX9_setInn_41 : decode cX9_setInn 41 = .ok (.getfield 12, 3) := by decide +kernel
theorem dX9_setInn_44 : decode cX9_setInn 44 = .ok (.getfield 47, 3) := by decide +kernel
theorem dX9_setInn_47 : decode cX9_setInn 47 = .ok (.getfield 76, 3) := by decide +kernel
theorem dX9_setInn_50 : decode cX9_setInn 50 = .ok (.iload_n 1, 1) := by decide +kernel
theorem dX9_setInn_51 : decode cX9_setInn 51 = .ok (.iload_n 2, 1) := by decide +kernel
theorem dX9_setInn_52 : decode cX9_setInn 52 = .ok (.bastore, 1) := by decide +kernel
theorem dX9_setInn_53 : decode cX9_setInn 53 = .ok (.aload_n 0, 1) := by decide +kernel
theorem dX9_setInn_54 : decode cX9_setInn 54 = .ok (.getfield 12, 3) := by decide +kernel
theorem dX9_setInn_57 : decode cX9_setInn 57 = .ok (.getfield 47, 3) := by decide +kernel
theorem dX9_setInn_60 : decode cX9_setInn 60 = .ok (.iload_n 1, 1) := by decide +kernel
theorem dX9_setInn_61 : decode cX9_setInn 61 = .ok (.invokevirtual 80, 3) := by decide +kernel
theorem dX9_setInn_64 : decode cX9_setInn 64 = .ok (.aload_n 0, 1) := by decide +kernel
theorem dX9_setInn_65 : decode cX9_setInn 65 = .ok (.getfield 12, 3) := by decide +kernel
theorem dX9_setInn_68 : decode cX9_setInn 68 = .ok (.getfield 47, 3) := by decide +kernel
theorem dX9_setInn_71 : decode cX9_setInn 71 = .ok (.invokevirtual 84, 3) := by decide +kernel
theorem dX9_setInn_74 : decode cX9_setInn 74 = .ok (.ireturn, 1) := by decide +kernel
set_option maxRecDepth 100000 in
set_option maxHeartbeats 4000000 in
theorem c_X9_setInn (l : Launch) (D : va_G) (cas : Nat → ClassId) (ad : Nat → Nat) (hi : zInj ad) {v1 : Int} {v2 : Int}  {r : Int} {M M' : Mem} (hf : f_X9_setInn v1 v2 M = some (r, M')) : zMi l D cas ad yX9_setInn cX9_setInn 3 (some .int) 5 111 [.ref (ad 0), .int (zI v1), .int (zI v2)] M r M' := by
  refine zbody (by decide) (Nat.le_of_ble_eq_true rfl) hi ?_
  intro p e s m args below meth c X hr hk0
  have X : zX p s m args c cX9_setInn "ShardTrails" 3 D cas ad (zA ad) := X
  unfold f_X9_setInn at hf
  refine (?_ : WW p l e (zrm 5 111) s m args below meth c D cas ad (zA ad) 3 0 0 (MQ below (zQi D cas ad r M') args s 0 0 (zA ad)) 0 [(0, .ref (ad 0)), (1, .int (zI v1)), (2, .int (zI v2))] [] M)
  refine R_aload_n X 0 dX9_setInn_0 rfl rfl ?_
  refine R_iload_n X 1 dX9_setInn_1 rfl rfl ?_
  obtain ⟨r1, M2, hc3, hf⟩ := zbnd_some hf
  refine R_callVi X (av := [.int (zI v1)]) (rest := []) (c_X9_isPasture l D cas ad hi hc3) zy_X9_isPasture lc_0 rfl rfl wm_X9_65 rfl rfl ⟨Nat.le_of_ble_eq_true rfl, Nat.le_of_ble_eq_true rfl⟩ ⟨Nat.le_refl _, Nat.le_refl _⟩ (Nat.le_of_ble_eq_true rfl) dX9_setInn_2 ?_
  obtain ⟨hq4, hf⟩ := zgrd hf
  refine R_if_ne X 10 hq4 dX9_setInn_5 (by decide) (fun c20 => ?_) (fun c20 => ?_)
  · have hf := zelse hf c20
    refine R_aload_n X 0 dX9_setInn_10 rfl rfl ?_
    refine R_getR X (j := 0) 1 1 lc_0 rfl inX9 (by decide) rfl rfl (by decide) rfl rfl wf_X9_12 dX9_setInn_11 ?_
    refine R_getR X (j := 5) 3 4 lc_1 rfl inX7 (by decide) rfl rfl (by decide) rfl rfl wf_X9_47 dX9_setInn_14 ?_
    refine R_getR X (j := 5) 5 9 lc_4 rfl inX2 (by decide) rfl rfl (by decide) rfl rfl wf_X9_76 dX9_setInn_17 ?_
    refine R_iload_n X 1 dX9_setInn_20 rfl rfl ?_
    obtain ⟨hq5, hf⟩ := zgrd hf
    refine R_zald X lc_9 hq5 dX9_setInn_21 ?_
    refine R_iload_n X 2 dX9_setInn_22 rfl rfl ?_
    obtain ⟨hq6, hf⟩ := zgrd hf
    obtain ⟨hq7, hf⟩ := zgrd hf
    refine R_icmp_ne X 29 ⟨hq6, hq7⟩ dX9_setInn_23 (by decide) (fun c19 => ?_) (fun c19 => ?_)
    · have hf := zelse hf c19
      refine R_aload_n X 0 dX9_setInn_29 rfl rfl ?_
      refine R_getR X (j := 3) 88 88 lc_0 rfl inX9 (by decide) rfl rfl (by decide) rfl rfl wf_X9_25 dX9_setInn_30 ?_
      refine R_aload_n X 0 dX9_setInn_33 rfl rfl ?_
      refine R_getR X (j := 0) 1 1 lc_0 rfl inX9 (by decide) rfl rfl (by decide) rfl rfl wf_X9_12 dX9_setInn_34 ?_
      obtain ⟨r8, M9, hc10, hf⟩ := zbnd_some hf
      refine R_callVv X (av := [.ref (ad 1)]) (rest := []) (c_X1_store l D cas ad hi lc_1 hc10) zy_X1_store lc_88 rfl rfl wm_X9_57 rfl rfl ⟨Nat.le_of_ble_eq_true rfl, Nat.le_of_ble_eq_true rfl⟩ ⟨Nat.le_refl _, Nat.le_refl _⟩ (Nat.le_of_ble_eq_true rfl) dX9_setInn_37 ?_
      refine R_aload_n X 0 dX9_setInn_40 rfl rfl ?_
      refine R_getR X (j := 0) 1 1 lc_0 rfl inX9 (by decide) rfl rfl (by decide) rfl rfl wf_X9_12 dX9_setInn_41 ?_
      refine R_getR X (j := 5) 3 4 lc_1 rfl inX7 (by decide) rfl rfl (by decide) rfl rfl wf_X9_47 dX9_setInn_44 ?_
      refine R_getR X (j := 5) 5 9 lc_4 rfl inX2 (by decide) rfl rfl (by decide) rfl rfl wf_X9_76 dX9_setInn_47 ?_
      refine R_iload_n X 1 dX9_setInn_50 rfl rfl ?_
      refine R_iload_n X 2 dX9_setInn_51 rfl rfl ?_
      obtain ⟨hq11, hf⟩ := zgrd hf
      obtain ⟨M12, eM12, hf⟩ := zlt_some hf
      refine R_zast X lc_9 hq5 hq11 dX9_setInn_52 ?_
      refine R_mem eM12 ?_
      refine R_aload_n X 0 dX9_setInn_53 rfl rfl ?_
      refine R_getR X (j := 0) 1 1 lc_0 rfl inX9 (by decide) rfl rfl (by decide) rfl rfl wf_X9_12 dX9_setInn_54 ?_
      refine R_getR X (j := 5) 3 4 lc_1 rfl inX7 (by decide) rfl rfl (by decide) rfl rfl wf_X9_47 dX9_setInn_57 ?_
      refine R_iload_n X 1 dX9_setInn_60 rfl rfl ?_
      obtain ⟨r13, M14, hc15, hf⟩ := zbnd_some hf
      refine R_callVv X (av := [.int (zI v1)]) (rest := []) (c_X2_forgetPosted l D cas ad hi lc_4 hc15) zy_X2_forgetPosted lc_4 rfl rfl wm_X9_80 rfl rfl ⟨Nat.le_of_ble_eq_true rfl, Nat.le_of_ble_eq_true rfl⟩ ⟨Nat.le_refl _, Nat.le_refl _⟩ (Nat.le_of_ble_eq_true rfl) dX9_setInn_61 ?_
      refine R_aload_n X 0 dX9_setInn_64 rfl rfl ?_
      refine R_getR X (j := 0) 1 1 lc_0 rfl inX9 (by decide) rfl rfl (by decide) rfl rfl wf_X9_12 dX9_setInn_65 ?_
      refine R_getR X (j := 5) 3 4 lc_1 rfl inX7 (by decide) rfl rfl (by decide) rfl rfl wf_X9_47 dX9_setInn_68 ?_
      obtain ⟨r16, M17, hc18, hf⟩ := zbnd_some hf
      refine R_callVi X (av := []) (rest := []) (c_X2_inns l D cas ad hi lc_4 hc18) zy_X2_inns lc_4 rfl rfl wm_X9_84 rfl rfl ⟨Nat.le_of_ble_eq_true rfl, Nat.le_of_ble_eq_true rfl⟩ ⟨Nat.le_refl _, Nat.le_refl _⟩ (Nat.le_of_ble_eq_true rfl) dX9_setInn_71 ?_
      exact R_iret X hr hk0 dX9_setInn_74 hf
    · have hf := zthen hf c19
      refine R_bipush X dX9_setInn_26 (by decide +kernel) ?_
      exact R_iret X hr hk0 dX9_setInn_28 hf
  · have hf := zthen hf c20
    refine R_iconst X dX9_setInn_8 ?_
    exact R_iret X hr hk0 dX9_setInn_9 hf
theorem dX9_setRoom_0 : decode cX9_setRoom 0 = .ok (.aload_n 0, 1) := by decide +kernel
theorem dX9_setRoom_1 : decode cX9_setRoom 1 = .ok (.iload_n 1, 1) := by decide +kernel
theorem dX9_setRoom_2 : decode cX9_setRoom 2 = .ok (.invokevirtual 65, 3) := by decide +kernel
theorem dX9_setRoom_5 : decode cX9_setRoom 5 = .ok (.ifCond .ne 5, 3) := by decide +kernel
theorem dX9_setRoom_8 : decode cX9_setRoom 8 = .ok (.iconst (-1), 1) := by decide +kernel
theorem dX9_setRoom_9 : decode cX9_setRoom 9 = .ok (.ireturn, 1) := by decide +kernel
theorem dX9_setRoom_10 : decode cX9_setRoom 10 = .ok (.iload_n 2, 1) := by decide +kernel
theorem dX9_setRoom_11 : decode cX9_setRoom 11 = .ok (.iconst 1, 1) := by decide +kernel
theorem dX9_setRoom_12 : decode cX9_setRoom 12 = .ok (.bipush 16, 2) := by decide +kernel
theorem dX9_setRoom_14 : decode cX9_setRoom 14 = .ok (.invokestatic 43, 3) := by decide +kernel
theorem dX9_setRoom_17 : decode cX9_setRoom 17 = .ok (.ifCond .ne 6, 3) := by decide +kernel
theorem dX9_setRoom_20 : decode cX9_setRoom 20 = .ok (.bipush (-2), 2) := by decide +kernel
theorem dX9_setRoom_22 : decode cX9_setRoom 22 = .ok (.ireturn, 1) := by decide +kernel
theorem dX9_setRoom_23 : decode cX9_setRoom 23 = .ok (.aload_n 0, 1) := by decide +kernel
theorem dX9_setRoom_24 : decode cX9_setRoom 24 = .ok (.getfield 12, 3) := by decide +kernel
theorem dX9_setRoom_27 : decode cX9_setRoom 27 = .ok (.getfield 47, 3) := by decide +kernel
theorem dX9_setRoom_30 : decode cX9_setRoom 30 = .ok (.getfield 69, 3) := by decide +kernel
theorem dX9_setRoom_33 : decode cX9_setRoom 33 = .ok (.iload_n 1, 1) := by decide +kernel
theorem dX9_setRoom_34 : decode cX9_setRoom 34 = .ok (.iaload, 1) := by decide +kernel
theorem dX9_setRoom_35 : decode cX9_setRoom 35 = .ok (.iload_n 2, 1) := by decide +kernel
theorem dX9_setRoom_36 : decode cX9_setRoom 36 = .ok (.if_icmp .le 6, 3) := by decide +kernel
theorem dX9_setRoom_39 : decode cX9_setRoom 39 = .ok (.bipush (-4), 2) := by decide +kernel
theorem dX9_setRoom_41 : decode cX9_setRoom 41 = .ok (.ireturn, 1) := by decide +kernel
theorem dX9_setRoom_42 : decode cX9_setRoom 42 = .ok (.aload_n 0, 1) := by decide +kernel
theorem dX9_setRoom_43 : decode cX9_setRoom 43 = .ok (.getfield 12, 3) := by decide +kernel
theorem dX9_setRoom_46 : decode cX9_setRoom 46 = .ok (.getfield 47, 3) := by decide +kernel
theorem dX9_setRoom_49 : decode cX9_setRoom 49 = .ok (.getfield 73, 3) := by decide +kernel
theorem dX9_setRoom_52 : decode cX9_setRoom 52 = .ok (.iload_n 1, 1) := by decide +kernel
theorem dX9_setRoom_53 : decode cX9_setRoom 53 = .ok (.iaload, 1) := by decide +kernel
theorem dX9_setRoom_54 : decode cX9_setRoom 54 = .ok (.istore_n 3, 1) := by decide +kernel
theorem dX9_setRoom_55 : decode cX9_setRoom 55 = .ok (.iload_n 3, 1) := by decide +kernel
theorem dX9_setRoom_56 : decode cX9_setRoom 56 = .ok (.iload_n 2, 1) := by decide +kernel
theorem dX9_setRoom_57 : decode cX9_setRoom 57 = .ok (.if_icmp .ne 6, 3) := by decide +kernel
theorem dX9_setRoom_60 : decode cX9_setRoom 60 = .ok (.bipush (-5), 2) := by decide +kernel
theorem dX9_setRoom_62 : decode cX9_setRoom 62 = .ok (.ireturn, 1) := by decide +kernel
theorem dX9_setRoom_63 : decode cX9_setRoom 63 = .ok (.aload_n 0, 1) := by decide +kernel
theorem dX9_setRoom_64 : decode cX9_setRoom 64 = .ok (.getfield 25, 3) := by decide +kernel
theorem dX9_setRoom_67 : decode cX9_setRoom 67 = .ok (.aload_n 0, 1) := by decide +kernel
theorem dX9_setRoom_68 : decode cX9_setRoom 68 = .ok (.getfield 12, 3) := by decide +kernel
theorem dX9_setRoom_71 : decode cX9_setRoom 71 = .ok (.invokevirtual 57, 3) := by decide +kernel
theorem dX9_setRoom_74 : decode cX9_setRoom 74 = .ok (.aload_n 0, 1) := by decide +kernel
theorem dX9_setRoom_75 : decode cX9_setRoom 75 = .ok (.getfield 12, 3) := by decide +kernel
theorem dX9_setRoom_78 : decode cX9_setRoom 78 = .ok (.getfield 47, 3) := by decide +kernel
theorem dX9_setRoom_81 : decode cX9_setRoom 81 = .ok (.getfield 73, 3) := by decide +kernel
theorem dX9_setRoom_84 : decode cX9_setRoom 84 = .ok (.iload_n 1, 1) := by decide +kernel
theorem dX9_setRoom_85 : decode cX9_setRoom 85 = .ok (.iload_n 2, 1) := by decide +kernel
theorem dX9_setRoom_86 : decode cX9_setRoom 86 = .ok (.iastore, 1) := by decide +kernel
theorem dX9_setRoom_87 : decode cX9_setRoom 87 = .ok (.iload_n 3, 1) := by decide +kernel
theorem dX9_setRoom_88 : decode cX9_setRoom 88 = .ok (.ireturn, 1) := by decide +kernel
set_option maxRecDepth 100000 in
set_option maxHeartbeats 4000000 in
theorem c_X9_setRoom (l : Launch) (D : va_G) (cas : Nat → ClassId) (ad : Nat → Nat) (hi : zInj ad) {v1 : Int} {v2 : Int}  {r : Int} {M M' : Mem} (hf : f_X9_setRoom v1 v2 M = some (r, M')) : zMi l D cas ad yX9_setRoom cX9_setRoom 4 (some .int) 5 111 [.ref (ad 0), .int (zI v1), .int (zI v2)] M r M' := by
  refine zbody (by decide) (Nat.le_of_ble_eq_true rfl) hi ?_
  intro p e s m args below meth c X hr hk0
  have X : zX p s m args c cX9_setRoom "ShardTrails" 4 D cas ad (zA ad) := X
  unfold f_X9_setRoom at hf
  refine (?_ : WW p l e (zrm 5 111) s m args below meth c D cas ad (zA ad) 4 0 0 (MQ below (zQi D cas ad r M') args s 0 0 (zA ad)) 0 [(0, .ref (ad 0)), (1, .int (zI v1)), (2, .int (zI v2))] [] M)
  refine R_aload_n X 0 dX9_setRoom_0 rfl rfl ?_
  refine R_iload_n X 1 dX9_setRoom_1 rfl rfl ?_
  obtain ⟨r1, M2, hc3, hf⟩ := zbnd_some hf
  refine R_callVi X (av := [.int (zI v1)]) (rest := []) (c_X9_isPasture l D cas ad hi hc3) zy_X9_isPasture lc_0 rfl rfl wm_X9_65 rfl rfl ⟨Nat.le_of_ble_eq_true rfl, Nat.le_of_ble_eq_true rfl⟩ ⟨Nat.le_refl _, Nat.le_refl _⟩ (Nat.le_of_ble_eq_true rfl) dX9_setRoom_2 ?_
  obtain ⟨hq4, hf⟩ := zgrd hf
  refine R_if_ne X 10 hq4 dX9_setRoom_5 (by decide) (fun c21 => ?_) (fun c21 => ?_)
  · have hf := zelse hf c21
    refine R_iload_n X 2 dX9_setRoom_10 rfl rfl ?_
    refine R_iconst X dX9_setRoom_11 ?_
    refine R_bipush X dX9_setRoom_12 (by decide +kernel) ?_
    obtain ⟨r5, M6, hc7, hf⟩ := zbnd_some hf
    refine R_callSi X (av := [.int (zI v2), .int (zI 1), .int (zI 16)]) (rest := []) (c_X9_isWithin l D cas ad hi hc7) zy_X9_isWithin wm_X9_43 rfl rfl ⟨Nat.le_of_ble_eq_true rfl, Nat.le_of_ble_eq_true rfl⟩ ⟨Nat.le_refl _, Nat.le_refl _⟩ (Nat.le_of_ble_eq_true rfl) dX9_setRoom_14 ?_
    obtain ⟨hq8, hf⟩ := zgrd hf
    refine R_if_ne X 23 hq8 dX9_setRoom_17 (by decide) (fun c20 => ?_) (fun c20 => ?_)
    · have hf := zelse hf c20
      refine R_aload_n X 0 dX9_setRoom_23 rfl rfl ?_
      refine R_getR X (j := 0) 1 1 lc_0 rfl inX9 (by decide) rfl rfl (by decide) rfl rfl wf_X9_12 dX9_setRoom_24 ?_
      refine R_getR X (j := 5) 3 4 lc_1 rfl inX7 (by decide) rfl rfl (by decide) rfl rfl wf_X9_47 dX9_setRoom_27 ?_
      refine R_getR X (j := 3) 3 7 lc_4 rfl inX2 (by decide) rfl rfl (by decide) rfl rfl wf_X9_69 dX9_setRoom_30 ?_
      refine R_iload_n X 1 dX9_setRoom_33 rfl rfl ?_
      obtain ⟨hq9, hf⟩ := zgrd hf
      refine R_iald X lc_7 hq9 dX9_setRoom_34 ?_
      refine R_iload_n X 2 dX9_setRoom_35 rfl rfl ?_
      obtain ⟨hq10, hf⟩ := zgrd hf
      obtain ⟨hq11, hf⟩ := zgrd hf
      refine R_icmp_le X 42 ⟨hq10, hq11⟩ dX9_setRoom_36 (by decide) (fun c19 => ?_) (fun c19 => ?_)
      · have hf := zthen hf c19
        refine R_aload_n X 0 dX9_setRoom_42 rfl rfl ?_
        refine R_getR X (j := 0) 1 1 lc_0 rfl inX9 (by decide) rfl rfl (by decide) rfl rfl wf_X9_12 dX9_setRoom_43 ?_
        refine R_getR X (j := 5) 3 4 lc_1 rfl inX7 (by decide) rfl rfl (by decide) rfl rfl wf_X9_47 dX9_setRoom_46 ?_
        refine R_getR X (j := 2) 2 6 lc_4 rfl inX2 (by decide) rfl rfl (by decide) rfl rfl wf_X9_73 dX9_setRoom_49 ?_
        refine R_iload_n X 1 dX9_setRoom_52 rfl rfl ?_
        refine R_iald X lc_6 hq9 dX9_setRoom_53 ?_
        obtain ⟨x12, ex12, hf⟩ := zlt_some hf
        refine R_istore_nX X (lv' := [(3, .int (zI x12)), (0, .ref (ad 0)), (1, .int (zI v1)), (2, .int (zI v2))]) ex12 dX9_setRoom_54 rfl (by decide) rfl ?_
        refine R_iload_n X 0 dX9_setRoom_55 rfl rfl ?_
        refine R_iload_n X 3 dX9_setRoom_56 rfl rfl ?_
        obtain ⟨hq13, hf⟩ := zgrd hf
        refine R_icmp_ne X 63 ⟨hq13, hq11⟩ dX9_setRoom_57 (by decide) (fun c18 => ?_) (fun c18 => ?_)
        · have hf := zelse hf c18
          refine R_aload_n X 1 dX9_setRoom_63 rfl rfl ?_
          refine R_getR X (j := 3) 88 88 lc_0 rfl inX9 (by decide) rfl rfl (by decide) rfl rfl wf_X9_25 dX9_setRoom_64 ?_
          refine R_aload_n X 1 dX9_setRoom_67 rfl rfl ?_
          refine R_getR X (j := 0) 1 1 lc_0 rfl inX9 (by decide) rfl rfl (by decide) rfl rfl wf_X9_12 dX9_setRoom_68 ?_
          obtain ⟨r14, M15, hc16, hf⟩ := zbnd_some hf
          refine R_callVv X (av := [.ref (ad 1)]) (rest := []) (c_X1_store l D cas ad hi lc_1 hc16) zy_X1_store lc_88 rfl rfl wm_X9_57 rfl rfl ⟨Nat.le_of_ble_eq_true rfl, Nat.le_of_ble_eq_true rfl⟩ ⟨Nat.le_refl _, Nat.le_refl _⟩ (Nat.le_of_ble_eq_true rfl) dX9_setRoom_71 ?_
          refine R_aload_n X 1 dX9_setRoom_74 rfl rfl ?_
          refine R_getR X (j := 0) 1 1 lc_0 rfl inX9 (by decide) rfl rfl (by decide) rfl rfl wf_X9_12 dX9_setRoom_75 ?_
          refine R_getR X (j := 5) 3 4 lc_1 rfl inX7 (by decide) rfl rfl (by decide) rfl rfl wf_X9_47 dX9_setRoom_78 ?_
          refine R_getR X (j := 2) 2 6 lc_4 rfl inX2 (by decide) rfl rfl (by decide) rfl rfl wf_X9_73 dX9_setRoom_81 ?_
          refine R_iload_n X 2 dX9_setRoom_84 rfl rfl ?_
          refine R_iload_n X 3 dX9_setRoom_85 rfl rfl ?_
          obtain ⟨M17, eM17, hf⟩ := zlt_some hf
          refine R_iast X lc_6 hq9 dX9_setRoom_86 ?_
          refine R_mem eM17 ?_
          refine R_iload_n X 0 dX9_setRoom_87 rfl rfl ?_
          exact R_iret X hr hk0 dX9_setRoom_88 hf
        · have hf := zthen hf c18
          refine R_bipush X dX9_setRoom_60 (by decide +kernel) ?_
          exact R_iret X hr hk0 dX9_setRoom_62 hf
      · have hf := zelse hf c19
        refine R_bipush X dX9_setRoom_39 (by decide +kernel) ?_
        exact R_iret X hr hk0 dX9_setRoom_41 hf
    · have hf := zthen hf c20
      refine R_bipush X dX9_setRoom_20 (by decide +kernel) ?_
      exact R_iret X hr hk0 dX9_setRoom_22 hf
  · have hf := zthen hf c21
    refine R_iconst X dX9_setRoom_8 ?_
    exact R_iret X hr hk0 dX9_setRoom_9 hf
theorem dX9_setSeason_0 : decode cX9_setSeason 0 = .ok (.iload_n 1, 1) := by decide +kernel
theorem dX9_setSeason_1 : decode cX9_setSeason 1 = .ok (.iconst 0, 1) := by decide +kernel
theorem dX9_setSeason_2 : decode cX9_setSeason 2 = .ok (.iconst 3, 1) := by decide +kernel
theorem dX9_setSeason_3 : decode cX9_setSeason 3 = .ok (.invokestatic 43, 3) := by decide +kernel
theorem dX9_setSeason_6 : decode cX9_setSeason 6 = .ok (.ifCond .eq 13, 3) := by decide +kernel
theorem dX9_setSeason_9 : decode cX9_setSeason 9 = .ok (.iload_n 2, 1) := by decide +kernel
theorem dX9_setSeason_10 : decode cX9_setSeason 10 = .ok (.iconst 0, 1) := by decide +kernel
theorem dX9_setSeason_11 : decode cX9_setSeason 11 = .ok (.bipush 90, 2) := by decide +kernel
theorem dX9_setSeason_13 : decode cX9_setSeason 13 = .ok (.invokestatic 43, 3) := by decide +kernel
theorem dX9_setSeason_16 : decode cX9_setSeason 16 = .ok (.ifCond .ne 6, 3) := by decide +kernel
theorem dX9_setSeason_19 : decode cX9_setSeason 19 = .ok (.bipush (-2), 2) := by decide +kernel
theorem dX9_setSeason_21 : decode cX9_setSeason 21 = .ok (.ireturn, 1) := by decide +kernel
theorem dX9_setSeason_22 : decode cX9_setSeason 22 = .ok (.aload_n 0, 1) := by decide +kernel
theorem dX9_setSeason_23 : decode cX9_setSeason 23 = .ok (.getfield 12, 3) := by decide +kernel
theorem dX9_setSeason_26 : decode cX9_setSeason 26 = .ok (.getfield 109, 3) := by decide +kernel
theorem dX9_setSeason_29 : decode cX9_setSeason 29 = .ok (.iload_n 1, 1) := by decide +kernel
theorem dX9_setSeason_30 : decode cX9_setSeason 30 = .ok (.iaload, 1) := by decide +kernel
theorem dX9_setSeason_31 : decode cX9_setSeason 31 = .ok (.istore_n 3, 1) := by decide +kernel
theorem dX9_setSeason_32 : decode cX9_setSeason 32 = .ok (.iload_n 3, 1) := by decide +kernel
theorem dX9_setSeason_33 : decode cX9_setSeason 33 = .ok (.iload_n 2, 1) := by decide +kernel
theorem dX9_setSeason_34 : decode cX9_setSeason 34 = .ok (.if_icmp .ne 6, 3) := by decide +kernel
theorem dX9_setSeason_37 : decode cX9_setSeason 37 = .ok (.bipush (-5), 2) := by decide +kernel
theorem dX9_setSeason_39 : decode cX9_setSeason 39 = .ok (.ireturn, 1) := by decide +kernel
theorem dX9_setSeason_40 : decode cX9_setSeason 40 = .ok (.aload_n 0, 1) := by decide +kernel
theorem dX9_setSeason_41 : decode cX9_setSeason 41 = .ok (.getfield 25, 3) := by decide +kernel
theorem dX9_setSeason_44 : decode cX9_setSeason 44 = .ok (.aload_n 0, 1) := by decide +kernel
theorem dX9_setSeason_45 : decode cX9_setSeason 45 = .ok (.getfield 12, 3) := by decide +kernel
theorem dX9_setSeason_48 : decode cX9_setSeason 48 = .ok (.invokevirtual 57, 3) := by decide +kernel
theorem dX9_setSeason_51 : decode cX9_setSeason 51 = .ok (.aload_n 0, 1) := by decide +kernel
theorem dX9_setSeason_52 : decode cX9_setSeason 52 = .ok (.getfield 12, 3) := by decide +kernel
theorem dX9_setSeason_55 : decode cX9_setSeason 55 = .ok (.getfield 109, 3) := by decide +kernel
theorem dX9_setSeason_58 : decode cX9_setSeason 58 = .ok (.iload_n 1, 1) := by decide +kernel
theorem dX9_setSeason_59 : decode cX9_setSeason 59 = .ok (.iload_n 2, 1) := by decide +kernel
theorem dX9_setSeason_60 : decode cX9_setSeason 60 = .ok (.iastore, 1) := by decide +kernel
theorem dX9_setSeason_61 : decode cX9_setSeason 61 = .ok (.iload_n 3, 1) := by decide +kernel
theorem dX9_setSeason_62 : decode cX9_setSeason 62 = .ok (.ireturn, 1) := by decide +kernel
set_option maxRecDepth 100000 in
set_option maxHeartbeats 4000000 in
theorem c_X9_setSeason (l : Launch) (D : va_G) (cas : Nat → ClassId) (ad : Nat → Nat) (hi : zInj ad) {v1 : Int} {v2 : Int}  {r : Int} {M M' : Mem} (hf : f_X9_setSeason v1 v2 M = some (r, M')) : zMi l D cas ad yX9_setSeason cX9_setSeason 4 (some .int) 5 111 [.ref (ad 0), .int (zI v1), .int (zI v2)] M r M' := by
  refine zbody (by decide) (Nat.le_of_ble_eq_true rfl) hi ?_
  intro p e s m args below meth c X hr hk0
  have X : zX p s m args c cX9_setSeason "ShardTrails" 4 D cas ad (zA ad) := X
  have hB19 : ∀ (M : Mem), f_X9_setSeason_b19 M = some (r, M') → WW p l e (zrm 5 111) s m args below meth c D cas ad (zA ad) 4 0 0 (MQ below (zQi D cas ad r M') args s 0 0 (zA ad)) 19 [] [] M := by
    intro M hf
    unfold f_X9_setSeason_b19 at hf
    refine R_bipush X dX9_setSeason_19 (by decide +kernel) ?_
    exact R_iret X hr hk0 dX9_setSeason_21 hf
  unfold f_X9_setSeason at hf
  refine (?_ : WW p l e (zrm 5 111) s m args below meth c D cas ad (zA ad) 4 0 0 (MQ below (zQi D cas ad r M') args s 0 0 (zA ad)) 0 [(0, .ref (ad 0)), (1, .int (zI v1)), (2, .int (zI v2))] [] M)
  refine R_iload_n X 1 dX9_setSeason_0 rfl rfl ?_
  refine R_iconst X dX9_setSeason_1 ?_
  refine R_iconst X dX9_setSeason_2 ?_
  obtain ⟨r1, M2, hc3, hf⟩ := zbnd_some hf
  refine R_callSi X (av := [.int (zI v1), .int (zI 0), .int (zI 3)]) (rest := []) (c_X9_isWithin l D cas ad hi hc3) zy_X9_isWithin wm_X9_43 rfl rfl ⟨Nat.le_of_ble_eq_true rfl, Nat.le_of_ble_eq_true rfl⟩ ⟨Nat.le_refl _, Nat.le_refl _⟩ (Nat.le_of_ble_eq_true rfl) dX9_setSeason_3 ?_
  obtain ⟨hq4, hf⟩ := zgrd hf
  refine R_if_eq X 19 hq4 dX9_setSeason_6 (by decide) (fun c19 => ?_) (fun c19 => ?_)
  · have hf := zthen hf c19
    exact R_sub [] rfl (hB19 M2 hf)
  · have hf := zelse hf c19
    refine R_iload_n X 2 dX9_setSeason_9 rfl rfl ?_
    refine R_iconst X dX9_setSeason_10 ?_
    refine R_bipush X dX9_setSeason_11 (by decide +kernel) ?_
    obtain ⟨r5, M6, hc7, hf⟩ := zbnd_some hf
    refine R_callSi X (av := [.int (zI v2), .int (zI 0), .int (zI 90)]) (rest := []) (c_X9_isWithin l D cas ad hi hc7) zy_X9_isWithin wm_X9_43 rfl rfl ⟨Nat.le_of_ble_eq_true rfl, Nat.le_of_ble_eq_true rfl⟩ ⟨Nat.le_refl _, Nat.le_refl _⟩ (Nat.le_of_ble_eq_true rfl) dX9_setSeason_13 ?_
    obtain ⟨hq8, hf⟩ := zgrd hf
    refine R_if_ne X 22 hq8 dX9_setSeason_16 (by decide) (fun c18 => ?_) (fun c18 => ?_)
    · have hf := zelse hf c18
      refine R_aload_n X 0 dX9_setSeason_22 rfl rfl ?_
      refine R_getR X (j := 0) 1 1 lc_0 rfl inX9 (by decide) rfl rfl (by decide) rfl rfl wf_X9_12 dX9_setSeason_23 ?_
      refine R_getR X (j := 4) 2 3 lc_1 rfl inX7 (by decide) rfl rfl (by decide) rfl rfl wf_X9_109 dX9_setSeason_26 ?_
      refine R_iload_n X 1 dX9_setSeason_29 rfl rfl ?_
      obtain ⟨hq9, hf⟩ := zgrd hf
      refine R_iald X lc_3 hq9 dX9_setSeason_30 ?_
      obtain ⟨x10, ex10, hf⟩ := zlt_some hf
      refine R_istore_nX X (lv' := [(3, .int (zI x10)), (0, .ref (ad 0)), (1, .int (zI v1)), (2, .int (zI v2))]) ex10 dX9_setSeason_31 rfl (by decide) rfl ?_
      refine R_iload_n X 0 dX9_setSeason_32 rfl rfl ?_
      refine R_iload_n X 3 dX9_setSeason_33 rfl rfl ?_
      obtain ⟨hq11, hf⟩ := zgrd hf
      obtain ⟨hq12, hf⟩ := zgrd hf
      refine R_icmp_ne X 40 ⟨hq11, hq12⟩ dX9_setSeason_34 (by decide) (fun c17 => ?_) (fun c17 => ?_)
      · have hf := zelse hf c17
        refine R_aload_n X 1 dX9_setSeason_40 rfl rfl ?_
        refine R_getR X (j := 3) 88 88 lc_0 rfl inX9 (by decide) rfl rfl (by decide) rfl rfl wf_X9_25 dX9_setSeason_41 ?_
        refine R_aload_n X 1 dX9_setSeason_44 rfl rfl ?_
        refine R_getR X (j := 0) 1 1 lc_0 rfl inX9 (by decide) rfl rfl (by decide) rfl rfl wf_X9_12 dX9_setSeason_45 ?_
        obtain ⟨r13, M14, hc15, hf⟩ := zbnd_some hf
        refine R_callVv X (av := [.ref (ad 1)]) (rest := []) (c_X1_store l D cas ad hi lc_1 hc15) zy_X1_store lc_88 rfl rfl wm_X9_57 rfl rfl ⟨Nat.le_of_ble_eq_true rfl, Nat.le_of_ble_eq_true rfl⟩ ⟨Nat.le_refl _, Nat.le_refl _⟩ (Nat.le_of_ble_eq_true rfl) dX9_setSeason_48 ?_
        refine R_aload_n X 1 dX9_setSeason_51 rfl rfl ?_
        refine R_getR X (j := 0) 1 1 lc_0 rfl inX9 (by decide) rfl rfl (by decide) rfl rfl wf_X9_12 dX9_setSeason_52 ?_
        refine R_getR X (j := 4) 2 3 lc_1 rfl inX7 (by decide) rfl rfl (by decide) rfl rfl wf_X9_109 dX9_setSeason_55 ?_
        refine R_iload_n X 2 dX9_setSeason_58 rfl rfl ?_
        refine R_iload_n X 3 dX9_setSeason_59 rfl rfl ?_
        obtain ⟨M16, eM16, hf⟩ := zlt_some hf
        refine R_iast X lc_3 hq9 dX9_setSeason_60 ?_
        refine R_mem eM16 ?_
        refine R_iload_n X 0 dX9_setSeason_61 rfl rfl ?_
        exact R_iret X hr hk0 dX9_setSeason_62 hf
      · have hf := zthen hf c17
        refine R_bipush X dX9_setSeason_37 (by decide +kernel) ?_
        exact R_iret X hr hk0 dX9_setSeason_39 hf
    · have hf := zthen hf c18
      exact R_sub [] rfl (hB19 M6 hf)
theorem dX0_placeByHeat_0 : decode cX0_placeByHeat 0 = .ok (.iconst 0, 1) := by decide +kernel
theorem dX0_placeByHeat_1 : decode cX0_placeByHeat 1 = .ok (.istore_n 2, 1) := by decide +kernel
theorem dX0_placeByHeat_2 : decode cX0_placeByHeat 2 = .ok (.iconst 0, 1) := by decide +kernel
theorem dX0_placeByHeat_3 : decode cX0_placeByHeat 3 = .ok (.istore_n 3, 1) := by decide +kernel
theorem dX0_placeByHeat_4 : decode cX0_placeByHeat 4 = .ok (.iload_n 3, 1) := by decide +kernel
theorem dX0_placeByHeat_5 : decode cX0_placeByHeat 5 = .ok (.bipush 16, 2) := by decide +kernel
theorem dX0_placeByHeat_7 : decode cX0_placeByHeat 7 = .ok (.if_icmp .ge 21, 3) := by decide +kernel
theorem dX0_placeByHeat_10 : decode cX0_placeByHeat 10 = .ok (.aload_n 0, 1) := by decide +kernel
theorem dX0_placeByHeat_11 : decode cX0_placeByHeat 11 = .ok (.iload_n 3, 1) := by decide +kernel
theorem dX0_placeByHeat_12 : decode cX0_placeByHeat 12 = .ok (.iload_n 1, 1) := by decide +kernel
theorem dX0_placeByHeat_13 : decode cX0_placeByHeat 13 = .ok (.invokevirtual 34, 3) := by decide +kernel
theorem dX0_placeByHeat_16 : decode cX0_placeByHeat 16 = .ok (.ifCond .eq 6, 3) := by decide +kernel
theorem dX0_placeByHeat_19 : decode cX0_placeByHeat 19 = .ok (.iinc 2 1, 3) := by decide +kernel
theorem dX0_placeByHeat_22 : decode cX0_placeByHeat 22 = .ok (.iinc 3 1, 3) := by decide +kernel
theorem dX0_placeByHeat_25 : decode cX0_placeByHeat 25 = .ok (.goto (-21), 3) := by decide +kernel
theorem dX0_placeByHeat_28 : decode cX0_placeByHeat 28 = .ok (.iload_n 2, 1) := by decide +kernel
theorem dX0_placeByHeat_29 : decode cX0_placeByHeat 29 = .ok (.ireturn, 1) := by decide +kernel
set_option maxRecDepth 100000 in
set_option maxHeartbeats 4000000 in
theorem c_X0_placeByHeat (l : Launch) (D : va_G) (cas : Nat → ClassId) (ad : Nat → Nat) (hi : zInj ad) {k : Nat} {v1 : Int} (hk : k < zN ∧ lay k = (0, 0)) {r : Int} {M M' : Mem} (hf : f_X0_placeByHeat k v1 M = some (r, M')) : zMi l D cas ad yX0_placeByHeat cX0_placeByHeat 4 (some .int) 1 22 [.ref (ad k), .int (zI v1)] M r M' := by
  refine zbody (by decide) (Nat.le_of_ble_eq_true rfl) hi ?_
  intro p e s m args below meth c X hr hk0
  have X : zX p s m args c cX0_placeByHeat "ShardTrails$Herd" 4 D cas ad (zA ad) := X
  have hB22 : ∀ (g4 : Int → Int → Int → Mem → Option (Int × Mem)) (hg4 : ∀ (v1 v2 v3 : Int) (M : Mem), g4 v1 v2 v3 M = some (r, M') → WW p l e (zrm 1 22) s m args below meth c D cas ad (zA ad) 4 0 0 (MQ below (zQi D cas ad r M') args s 0 0 (zA ad)) 4 [(0, .ref (ad k)), (1, .int (zI v1)), (2, .int (zI v2)), (3, .int (zI v3))] [] M) (v1 v2 v3 : Int) (M : Mem), f_X0_placeByHeat_b22 g4 k v1 v2 v3 M = some (r, M') → WW p l e (zrm 1 22) s m args below meth c D cas ad (zA ad) 4 0 0 (MQ below (zQi D cas ad r M') args s 0 0 (zA ad)) 22 [(0, .ref (ad k)), (1, .int (zI v1)), (2, .int (zI v2)), (3, .int (zI v3))] [] M := by
    intro g4 hg4 v1 v2 v3 M hf
    unfold f_X0_placeByHeat_b22 at hf
    refine R_iinc X (lv' := [(3, .int (zI (v3 + 1))), (0, .ref (ad k)), (1, .int (zI v1)), (2, .int (zI v2))]) 3 dX0_placeByHeat_22 rfl (by decide) rfl ?_
    refine R_goto X 4 dX0_placeByHeat_25 (by decide) ?_
    exact R_sub [1, 2, 3, 0] rfl (hg4 v1 v2 (v3 + 1) M hf)
  have hB4 : ∀ (n : Nat) (v1 v2 v3 : Int) (M : Mem), f_X0_placeByHeat_b4 k n v1 v2 v3 M = some (r, M') → WW p l e (zrm 1 22) s m args below meth c D cas ad (zA ad) 4 0 0 (MQ below (zQi D cas ad r M') args s 0 0 (zA ad)) 4 [(0, .ref (ad k)), (1, .int (zI v1)), (2, .int (zI v2)), (3, .int (zI v3))] [] M := by
    intro n
    induction n with
    | zero => intro v1 v2 v3 M hf; exact absurd hf (by unfold f_X0_placeByHeat_b4; simp)
    | succ n ih =>
      intro v1 v2 v3 M hf
      unfold f_X0_placeByHeat_b4 at hf
      refine R_iload_n X 3 dX0_placeByHeat_4 rfl rfl ?_
      refine R_bipush X dX0_placeByHeat_5 (by decide +kernel) ?_
      obtain ⟨hq1, hf⟩ := zgrd hf
      refine R_icmp_ge X 28 ⟨hq1, (by decide)⟩ dX0_placeByHeat_7 (by decide) (fun c7 => ?_) (fun c7 => ?_)
      · have hf := zthen hf c7
        refine R_iload_n X 2 dX0_placeByHeat_28 rfl rfl ?_
        exact R_iret X hr hk0 dX0_placeByHeat_29 hf
      · have hf := zelse hf c7
        refine R_aload_n X 0 dX0_placeByHeat_10 rfl rfl ?_
        refine R_iload_n X 3 dX0_placeByHeat_11 rfl rfl ?_
        refine R_iload_n X 1 dX0_placeByHeat_12 rfl rfl ?_
        obtain ⟨r2, M3, hc4, hf⟩ := zbnd_some hf
        refine R_callVi X (av := [.int (zI v3), .int (zI v1)]) (rest := []) (c_X0_isAskedBefore l D cas ad hi hk hc4) zy_X0_isAskedBefore hk rfl rfl wm_X0_34 rfl rfl ⟨Nat.le_of_ble_eq_true rfl, Nat.le_of_ble_eq_true rfl⟩ ⟨Nat.le_refl _, Nat.le_refl _⟩ (Nat.le_of_ble_eq_true rfl) dX0_placeByHeat_13 ?_
        obtain ⟨hq5, hf⟩ := zgrd hf
        refine R_if_eq X 22 hq5 dX0_placeByHeat_16 (by decide) (fun c6 => ?_) (fun c6 => ?_)
        · have hf := zthen hf c6
          exact R_sub [0, 1, 2, 3] rfl (hB22 (f_X0_placeByHeat_b4 k n) ih v1 v2 v3 M3 hf)
        · have hf := zelse hf c6
          refine R_iinc X (lv' := [(2, .int (zI (v2 + 1))), (0, .ref (ad k)), (1, .int (zI v1)), (3, .int (zI v3))]) 2 dX0_placeByHeat_19 rfl (by decide) rfl ?_
          exact R_sub [1, 2, 0, 3] rfl (hB22 (f_X0_placeByHeat_b4 k n) ih v1 (v2 + 1) v3 M3 hf)
  unfold f_X0_placeByHeat at hf
  refine (?_ : WW p l e (zrm 1 22) s m args below meth c D cas ad (zA ad) 4 0 0 (MQ below (zQi D cas ad r M') args s 0 0 (zA ad)) 0 [(0, .ref (ad k)), (1, .int (zI v1))] [] M)
  refine R_iconst X dX0_placeByHeat_0 ?_
  refine R_istore_n X (lv' := [(2, .int (zI 0)), (0, .ref (ad k)), (1, .int (zI v1))]) dX0_placeByHeat_1 rfl (by decide) rfl ?_
  refine R_iconst X dX0_placeByHeat_2 ?_
  refine R_istore_n X (lv' := [(3, .int (zI 0)), (2, .int (zI 0)), (0, .ref (ad k)), (1, .int (zI v1))]) dX0_placeByHeat_3 rfl (by decide) rfl ?_
  exact R_sub [2, 3, 1, 0] rfl (hB4 100000 v1 0 0 M hf)
theorem dX0_sumOfValues_0 : decode cX0_sumOfValues 0 = .ok (.iconst 0, 1) := by decide +kernel
theorem dX0_sumOfValues_1 : decode cX0_sumOfValues 1 = .ok (.istore_n 2, 1) := by decide +kernel
theorem dX0_sumOfValues_2 : decode cX0_sumOfValues 2 = .ok (.iconst 0, 1) := by decide +kernel
theorem dX0_sumOfValues_3 : decode cX0_sumOfValues 3 = .ok (.istore_n 3, 1) := by decide +kernel
theorem dX0_sumOfValues_4 : decode cX0_sumOfValues 4 = .ok (.iload_n 3, 1) := by decide +kernel
theorem dX0_sumOfValues_5 : decode cX0_sumOfValues 5 = .ok (.bipush 16, 2) := by decide +kernel
theorem dX0_sumOfValues_7 : decode cX0_sumOfValues 7 = .ok (.if_icmp .ge 23, 3) := by decide +kernel
theorem dX0_sumOfValues_10 : decode cX0_sumOfValues 10 = .ok (.iload_n 2, 1) := by decide +kernel
theorem dX0_sumOfValues_11 : decode cX0_sumOfValues 11 = .ok (.aload_n 0, 1) := by decide +kernel
theorem dX0_sumOfValues_12 : decode cX0_sumOfValues 12 = .ok (.getfield 21, 3) := by decide +kernel
theorem dX0_sumOfValues_15 : decode cX0_sumOfValues 15 = .ok (.iload_n 1, 1) := by decide +kernel
theorem dX0_sumOfValues_16 : decode cX0_sumOfValues 16 = .ok (.bipush 16, 2) := by decide +kernel
theorem dX0_sumOfValues_18 : decode cX0_sumOfValues 18 = .ok (.imul, 1) := by decide +kernel
theorem dX0_sumOfValues_19 : decode cX0_sumOfValues 19 = .ok (.iload_n 3, 1) := by decide +kernel
theorem dX0_sumOfValues_20 : decode cX0_sumOfValues 20 = .ok (.iadd, 1) := by decide +kernel
theorem dX0_sumOfValues_21 : decode cX0_sumOfValues 21 = .ok (.iaload, 1) := by decide +kernel
theorem dX0_sumOfValues_22 : decode cX0_sumOfValues 22 = .ok (.iadd, 1) := by decide +kernel
theorem dX0_sumOfValues_23 : decode cX0_sumOfValues 23 = .ok (.istore_n 2, 1) := by decide +kernel
theorem dX0_sumOfValues_24 : decode cX0_sumOfValues 24 = .ok (.iinc 3 1, 3) := by decide +kernel
theorem dX0_sumOfValues_27 : decode cX0_sumOfValues 27 = .ok (.goto (-23), 3) := by decide +kernel
theorem dX0_sumOfValues_30 : decode cX0_sumOfValues 30 = .ok (.iload_n 2, 1) := by decide +kernel
theorem dX0_sumOfValues_31 : decode cX0_sumOfValues 31 = .ok (.ireturn, 1) := by decide +kernel
set_option maxRecDepth 100000 in
set_option maxHeartbeats 4000000 in
theorem c_X0_sumOfValues (l : Launch) (D : va_G) (cas : Nat → ClassId) (ad : Nat → Nat) (hi : zInj ad) {k : Nat} {v1 : Int} (hk : k < zN ∧ lay k = (0, 0)) {r : Int} {M M' : Mem} (hf : f_X0_sumOfValues k v1 M = some (r, M')) : zMi l D cas ad yX0_sumOfValues cX0_sumOfValues 4 (some .int) 0 0 [.ref (ad k), .int (zI v1)] M r M' := by
  refine zbody (by decide) (Nat.le_of_ble_eq_true rfl) hi ?_
  intro p e s m args below meth c X hr hk0
  have X : zX p s m args c cX0_sumOfValues "ShardTrails$Herd" 4 D cas ad (zA ad) := X
  have hB4 : ∀ (n : Nat) (v1 v2 v3 : Int) (M : Mem), f_X0_sumOfValues_b4 k n v1 v2 v3 M = some (r, M') → WW p l e (zrm 0 0) s m args below meth c D cas ad (zA ad) 4 0 0 (MQ below (zQi D cas ad r M') args s 0 0 (zA ad)) 4 [(0, .ref (ad k)), (1, .int (zI v1)), (2, .int (zI v2)), (3, .int (zI v3))] [] M := by
    intro n
    induction n with
    | zero => intro v1 v2 v3 M hf; exact absurd hf (by unfold f_X0_sumOfValues_b4; simp)
    | succ n ih =>
      intro v1 v2 v3 M hf
      unfold f_X0_sumOfValues_b4 at hf
      refine R_iload_n X 3 dX0_sumOfValues_4 rfl rfl ?_
      refine R_bipush X dX0_sumOfValues_5 (by decide +kernel) ?_
      obtain ⟨hq1, hf⟩ := zgrd hf
      refine R_icmp_ge X 30 ⟨hq1, (by decide)⟩ dX0_sumOfValues_7 (by decide) (fun c5 => ?_) (fun c5 => ?_)
      · have hf := zthen hf c5
        refine R_iload_n X 2 dX0_sumOfValues_30 rfl rfl ?_
        exact R_iret X hr hk0 dX0_sumOfValues_31 hf
      · have hf := zelse hf c5
        refine R_iload_n X 2 dX0_sumOfValues_10 rfl rfl ?_
        refine R_aload_n X 0 dX0_sumOfValues_11 rfl rfl ?_
        have hp2 : k + 4 < zN ∧ lay (k + 4) = (1, 256) := pt_0_3 _ hk.1 hk.2
        refine R_getR X (j := 3) 4 (k + 4) hk rfl inX0 (by decide) rfl rfl (by decide) rfl rfl wf_X0_21 dX0_sumOfValues_12 ?_
        refine R_iload_n X 1 dX0_sumOfValues_15 rfl rfl ?_
        refine R_bipush X dX0_sumOfValues_16 (by decide +kernel) ?_
        refine R_imul X dX0_sumOfValues_18 ?_
        refine R_iload_n X 3 dX0_sumOfValues_19 rfl rfl ?_
        refine R_iadd X dX0_sumOfValues_20 ?_
        obtain ⟨hq3, hf⟩ := zgrd hf
        refine R_iald X hp2 hq3 dX0_sumOfValues_21 ?_
        refine R_iadd X dX0_sumOfValues_22 ?_
        obtain ⟨x4, ex4, hf⟩ := zlt_some hf
        refine R_istore_nX X (lv' := [(2, .int (zI x4)), (0, .ref (ad k)), (1, .int (zI v1)), (3, .int (zI v3))]) ex4 dX0_sumOfValues_23 rfl (by decide) rfl ?_
        refine R_iinc X (lv' := [(3, .int (zI (v3 + 1))), (2, .int (zI x4)), (0, .ref (ad k)), (1, .int (zI v1))]) 3 dX0_sumOfValues_24 rfl (by decide) rfl ?_
        refine R_goto X 4 dX0_sumOfValues_27 (by decide) ?_
        exact R_sub [2, 3, 1, 0] rfl (ih v1 x4 (v3 + 1) M hf)
  unfold f_X0_sumOfValues at hf
  refine (?_ : WW p l e (zrm 0 0) s m args below meth c D cas ad (zA ad) 4 0 0 (MQ below (zQi D cas ad r M') args s 0 0 (zA ad)) 0 [(0, .ref (ad k)), (1, .int (zI v1))] [] M)
  refine R_iconst X dX0_sumOfValues_0 ?_
  refine R_istore_n X (lv' := [(2, .int (zI 0)), (0, .ref (ad k)), (1, .int (zI v1))]) dX0_sumOfValues_1 rfl (by decide) rfl ?_
  refine R_iconst X dX0_sumOfValues_2 ?_
  refine R_istore_n X (lv' := [(3, .int (zI 0)), (2, .int (zI 0)), (0, .ref (ad k)), (1, .int (zI v1))]) dX0_sumOfValues_3 rfl (by decide) rfl ?_
  exact R_sub [2, 3, 1, 0] rfl (hB4 100000 v1 0 0 M hf)
theorem dX8_countOf_0 : decode cX8_countOf 0 = .ok (.iconst 0, 1) := by decide +kernel
theorem dX8_countOf_1 : decode cX8_countOf 1 = .ok (.istore_n 2, 1) := by decide +kernel
theorem dX8_countOf_2 : decode cX8_countOf 2 = .ok (.iconst 0, 1) := by decide +kernel
theorem dX8_countOf_3 : decode cX8_countOf 3 = .ok (.istore_n 3, 1) := by decide +kernel
theorem dX8_countOf_4 : decode cX8_countOf 4 = .ok (.iload_n 3, 1) := by decide +kernel
theorem dX8_countOf_5 : decode cX8_countOf 5 = .ok (.bipush 8, 2) := by decide +kernel
theorem dX8_countOf_7 : decode cX8_countOf 7 = .ok (.if_icmp .ge 21, 3) := by decide +kernel
theorem dX8_countOf_10 : decode cX8_countOf 10 = .ok (.aload_n 0, 1) := by decide +kernel
theorem dX8_countOf_11 : decode cX8_countOf 11 = .ok (.iload_n 3, 1) := by decide +kernel
theorem dX8_countOf_12 : decode cX8_countOf 12 = .ok (.iload_n 1, 1) := by decide +kernel
theorem dX8_countOf_13 : decode cX8_countOf 13 = .ok (.invokevirtual 32, 3) := by decide +kernel
theorem dX8_countOf_16 : decode cX8_countOf 16 = .ok (.ifCond .eq 6, 3) := by decide +kernel
theorem dX8_countOf_19 : decode cX8_countOf 19 = .ok (.iinc 2 1, 3) := by decide +kernel
theorem dX8_countOf_22 : decode cX8_countOf 22 = .ok (.iinc 3 1, 3) := by decide +kernel
theorem dX8_countOf_25 : decode cX8_countOf 25 = .ok (.goto (-21), 3) := by decide +kernel
theorem dX8_countOf_28 : decode cX8_countOf 28 = .ok (.iload_n 2, 1) := by decide +kernel
theorem dX8_countOf_29 : decode cX8_countOf 29 = .ok (.ireturn, 1) := by decide +kernel
set_option maxRecDepth 100000 in
set_option maxHeartbeats 4000000 in
theorem c_X8_countOf (l : Launch) (D : va_G) (cas : Nat → ClassId) (ad : Nat → Nat) (hi : zInj ad) {k : Nat} {v1 : Int} (hk : k < zN ∧ lay k = (0, 8)) {r : Int} {M M' : Mem} (hf : f_X8_countOf k v1 M = some (r, M')) : zMi l D cas ad yX8_countOf cX8_countOf 4 (some .int) 2 43 [.ref (ad k), .int (zI v1)] M r M' := by
  refine zbody (by decide) (Nat.le_of_ble_eq_true rfl) hi ?_
  intro p e s m args below meth c X hr hk0
  have X : zX p s m args c cX8_countOf "ShardTrails$Tracks" 4 D cas ad (zA ad) := X
  have hB22 : ∀ (g4 : Int → Int → Int → Mem → Option (Int × Mem)) (hg4 : ∀ (v1 v2 v3 : Int) (M : Mem), g4 v1 v2 v3 M = some (r, M') → WW p l e (zrm 2 43) s m args below meth c D cas ad (zA ad) 4 0 0 (MQ below (zQi D cas ad r M') args s 0 0 (zA ad)) 4 [(0, .ref (ad k)), (1, .int (zI v1)), (2, .int (zI v2)), (3, .int (zI v3))] [] M) (v1 v2 v3 : Int) (M : Mem), f_X8_countOf_b22 g4 k v1 v2 v3 M = some (r, M') → WW p l e (zrm 2 43) s m args below meth c D cas ad (zA ad) 4 0 0 (MQ below (zQi D cas ad r M') args s 0 0 (zA ad)) 22 [(0, .ref (ad k)), (1, .int (zI v1)), (2, .int (zI v2)), (3, .int (zI v3))] [] M := by
    intro g4 hg4 v1 v2 v3 M hf
    unfold f_X8_countOf_b22 at hf
    refine R_iinc X (lv' := [(3, .int (zI (v3 + 1))), (0, .ref (ad k)), (1, .int (zI v1)), (2, .int (zI v2))]) 3 dX8_countOf_22 rfl (by decide) rfl ?_
    refine R_goto X 4 dX8_countOf_25 (by decide) ?_
    exact R_sub [1, 2, 3, 0] rfl (hg4 v1 v2 (v3 + 1) M hf)
  have hB4 : ∀ (n : Nat) (v1 v2 v3 : Int) (M : Mem), f_X8_countOf_b4 k n v1 v2 v3 M = some (r, M') → WW p l e (zrm 2 43) s m args below meth c D cas ad (zA ad) 4 0 0 (MQ below (zQi D cas ad r M') args s 0 0 (zA ad)) 4 [(0, .ref (ad k)), (1, .int (zI v1)), (2, .int (zI v2)), (3, .int (zI v3))] [] M := by
    intro n
    induction n with
    | zero => intro v1 v2 v3 M hf; exact absurd hf (by unfold f_X8_countOf_b4; simp)
    | succ n ih =>
      intro v1 v2 v3 M hf
      unfold f_X8_countOf_b4 at hf
      refine R_iload_n X 3 dX8_countOf_4 rfl rfl ?_
      refine R_bipush X dX8_countOf_5 (by decide +kernel) ?_
      obtain ⟨hq1, hf⟩ := zgrd hf
      refine R_icmp_ge X 28 ⟨hq1, (by decide)⟩ dX8_countOf_7 (by decide) (fun c7 => ?_) (fun c7 => ?_)
      · have hf := zthen hf c7
        refine R_iload_n X 2 dX8_countOf_28 rfl rfl ?_
        exact R_iret X hr hk0 dX8_countOf_29 hf
      · have hf := zelse hf c7
        refine R_aload_n X 0 dX8_countOf_10 rfl rfl ?_
        refine R_iload_n X 3 dX8_countOf_11 rfl rfl ?_
        refine R_iload_n X 1 dX8_countOf_12 rfl rfl ?_
        obtain ⟨r2, M3, hc4, hf⟩ := zbnd_some hf
        refine R_callVi X (av := [.int (zI v3), .int (zI v1)]) (rest := []) (c_X8_isAt l D cas ad hi hk hc4) zy_X8_isAt hk rfl rfl wm_X8_32 rfl rfl ⟨Nat.le_of_ble_eq_true rfl, Nat.le_of_ble_eq_true rfl⟩ ⟨Nat.le_refl _, Nat.le_refl _⟩ (Nat.le_of_ble_eq_true rfl) dX8_countOf_13 ?_
        obtain ⟨hq5, hf⟩ := zgrd hf
        refine R_if_eq X 22 hq5 dX8_countOf_16 (by decide) (fun c6 => ?_) (fun c6 => ?_)
        · have hf := zthen hf c6
          exact R_sub [0, 1, 2, 3] rfl (hB22 (f_X8_countOf_b4 k n) ih v1 v2 v3 M3 hf)
        · have hf := zelse hf c6
          refine R_iinc X (lv' := [(2, .int (zI (v2 + 1))), (0, .ref (ad k)), (1, .int (zI v1)), (3, .int (zI v3))]) 2 dX8_countOf_19 rfl (by decide) rfl ?_
          exact R_sub [1, 2, 0, 3] rfl (hB22 (f_X8_countOf_b4 k n) ih v1 (v2 + 1) v3 M3 hf)
  unfold f_X8_countOf at hf
  refine (?_ : WW p l e (zrm 2 43) s m args below meth c D cas ad (zA ad) 4 0 0 (MQ below (zQi D cas ad r M') args s 0 0 (zA ad)) 0 [(0, .ref (ad k)), (1, .int (zI v1))] [] M)
  refine R_iconst X dX8_countOf_0 ?_
  refine R_istore_n X (lv' := [(2, .int (zI 0)), (0, .ref (ad k)), (1, .int (zI v1))]) dX8_countOf_1 rfl (by decide) rfl ?_
  refine R_iconst X dX8_countOf_2 ?_
  refine R_istore_n X (lv' := [(3, .int (zI 0)), (2, .int (zI 0)), (0, .ref (ad k)), (1, .int (zI v1))]) dX8_countOf_3 rfl (by decide) rfl ?_
  exact R_sub [2, 3, 1, 0] rfl (hB4 100000 v1 0 0 M hf)
theorem dX9_shard_0 : decode cX9_shard 0 = .ok (.iload_n 1, 1) := by decide +kernel
theorem dX9_shard_1 : decode cX9_shard 1 = .ok (.invokestatic 127, 3) := by decide +kernel
theorem dX9_shard_4 : decode cX9_shard 4 = .ok (.ifCond .ne 5, 3) := by decide +kernel
theorem dX9_shard_7 : decode cX9_shard 7 = .ok (.iconst (-1), 1) := by decide +kernel
theorem dX9_shard_8 : decode cX9_shard 8 = .ok (.ireturn, 1) := by decide +kernel
theorem dX9_shard_9 : decode cX9_shard 9 = .ok (.iload_n 2, 1) := by decide +kernel
theorem dX9_shard_10 : decode cX9_shard 10 = .ok (.tableswitch 147 0 6 #[42, 55, 68, 81, 93, 105, 135], 42) := by decide +kernel
theorem dX9_shard_52 : decode cX9_shard 52 = .ok (.aload_n 0, 1) := by decide +kernel
theorem dX9_shard_53 : decode cX9_shard 53 = .ok (.getfield 12, 3) := by decide +kernel
theorem dX9_shard_56 : decode cX9_shard 56 = .ok (.getfield 130, 3) := by decide +kernel
theorem dX9_shard_59 : decode cX9_shard 59 = .ok (.getfield 134, 3) := by decide +kernel
theorem dX9_shard_62 : decode cX9_shard 62 = .ok (.iload_n 1, 1) := by decide +kernel
theorem dX9_shard_63 : decode cX9_shard 63 = .ok (.iaload, 1) := by decide +kernel
theorem dX9_shard_64 : decode cX9_shard 64 = .ok (.ireturn, 1) := by decide +kernel
theorem dX9_shard_65 : decode cX9_shard 65 = .ok (.aload_n 0, 1) := by decide +kernel
theorem dX9_shard_66 : decode cX9_shard 66 = .ok (.getfield 12, 3) := by decide +kernel
theorem dX9_shard_69 : decode cX9_shard 69 = .ok (.getfield 130, 3) := by decide +kernel
theorem dX9_shard_72 : decode cX9_shard 72 = .ok (.getfield 236, 3) := by decide +kernel
theorem dX9_shard_75 : decode cX9_shard 75 = .ok (.iload_n 1, 1) := by decide +kernel
theorem dX9_shard_76 : decode cX9_shard 76 = .ok (.iaload, 1) := by decide +kernel
theorem dX9_shard_77 : decode cX9_shard 77 = .ok (.ireturn, 1) := by decide +kernel
theorem dX9_shard_78 : decode cX9_shard 78 = .ok (.aload_n 0, 1) := by decide +kernel
theorem dX9_shard_79 : decode cX9_shard 79 = .ok (.getfield 12, 3) := by decide +kernel
theorem dX9_shard_82 : decode cX9_shard 82 = .ok (.getfield 130, 3) := by decide +kernel
theorem dX9_shard_85 : decode cX9_shard 85 = .ok (.getfield 239, 3) := by decide +kernel
theorem dX9_shard_88 : decode cX9_shard 88 = .ok (.iload_n 1, 1) := by decide +kernel
theorem dX9_shard_89 : decode cX9_shard 89 = .ok (.iaload, 1) := by decide +kernel
theorem dX9_shard_90 : decode cX9_shard 90 = .ok (.ireturn, 1) := by decide +kernel
theorem dX9_shard_91 : decode cX9_shard 91 = .ok (.aload_n 0, 1) := by decide +kernel
theorem dX9_shard_92 : decode cX9_shard 92 = .ok (.getfield 12, 3) := by decide +kernel
theorem dX9_shard_95 : decode cX9_shard 95 = .ok (.getfield 198, 3) := by decide +kernel
theorem dX9_shard_98 : decode cX9_shard 98 = .ok (.iload_n 1, 1) := by decide +kernel
theorem dX9_shard_99 : decode cX9_shard 99 = .ok (.invokevirtual 242, 3) := by decide +kernel
theorem dX9_shard_102 : decode cX9_shard 102 = .ok (.ireturn, 1) := by decide +kernel
theorem dX9_shard_103 : decode cX9_shard 103 = .ok (.aload_n 0, 1) := by decide +kernel
theorem dX9_shard_104 : decode cX9_shard 104 = .ok (.getfield 12, 3) := by decide +kernel
theorem dX9_shard_107 : decode cX9_shard 107 = .ok (.getfield 130, 3) := by decide +kernel
theorem dX9_shard_110 : decode cX9_shard 110 = .ok (.iload_n 1, 1) := by decide +kernel
theorem dX9_shard_111 : decode cX9_shard 111 = .ok (.invokevirtual 245, 3) := by decide +kernel
theorem dX9_shard_114 : decode cX9_shard 114 = .ok (.ireturn, 1) := by decide +kernel
theorem dX9_shard_115 : decode cX9_shard 115 = .ok (.aload_n 0, 1) := by decide +kernel
theorem dX9_shard_116 : decode cX9_shard 116 = .ok (.getfield 12, 3) := by decide +kernel
theorem dX9_shard_119 : decode cX9_shard 119 = .ok (.getfield 47, 3) := by decide +kernel
theorem dX9_shard_122 : decode cX9_shard 122 = .ok (.aload_n 0, 1) := by decide +kernel
theorem dX9_shard_123 : decode cX9_shard 123 = .ok (.getfield 12, 3) := by decide +kernel
theorem dX9_shard_126 : decode cX9_shard 126 = .ok (.getfield 130, 3) := by decide +kernel
theorem dX9_shard_129 : decode cX9_shard 129 = .ok (.getfield 134, 3) := by decide +kernel
theorem dX9_shard_132 : decode cX9_shard 132 = .ok (.iload_n 1, 1) := by decide +kernel
theorem dX9_shard_133 : decode cX9_shard 133 = .ok (.iaload, 1) := by decide +kernel
theorem dX9_shard_134 : decode cX9_shard 134 = .ok (.aload_n 0, 1) := by decide +kernel
theorem dX9_shard_135 : decode cX9_shard 135 = .ok (.getfield 12, 3) := by decide +kernel
theorem dX9_shard_138 : decode cX9_shard 138 = .ok (.invokevirtual 207, 3) := by decide +kernel
theorem dX9_shard_141 : decode cX9_shard 141 = .ok (.invokevirtual 248, 3) := by decide +kernel
theorem dX9_shard_144 : decode cX9_shard 144 = .ok (.ireturn, 1) := by decide +kernel
theorem dX9_shard_145 : decode cX9_shard 145 = .ok (.aload_n 0, 1) := by decide +kernel
theorem dX9_shard_146 : decode cX9_shard 146 = .ok (.getfield 12, 3) := by decide +kernel
theorem dX9_shard_149 : decode cX9_shard 149 = .ok (.getfield 130, 3) := by decide +kernel
theorem dX9_shard_152 : decode cX9_shard 152 = .ok (.iload_n 1, 1) := by decide +kernel
theorem dX9_shard_153 : decode cX9_shard 153 = .ok (.invokevirtual 251, 3) := by decide +kernel
theorem dX9_shard_156 : decode cX9_shard 156 = .ok (.ireturn, 1) := by decide +kernel
theorem dX9_shard_157 : decode cX9_shard 157 = .ok (.bipush (-2), 2) := by decide +kernel
theorem dX9_shard_159 : decode cX9_shard 159 = .ok (.ireturn, 1) := by decide +kernel
set_option maxRecDepth 100000 in
set_option maxHeartbeats 4000000 in
theorem c_X9_shard (l : Launch) (D : va_G) (cas : Nat → ClassId) (ad : Nat → Nat) (hi : zInj ad) {v1 : Int} {v2 : Int}  {r : Int} {M M' : Mem} (hf : f_X9_shard v1 v2 M = some (r, M')) : zMi l D cas ad yX9_shard cX9_shard 3 (some .int) 3 68 [.ref (ad 0), .int (zI v1), .int (zI v2)] M r M' := by
  refine zbody (by decide) (Nat.le_of_ble_eq_true rfl) hi ?_
  intro p e s m args below meth c X hr hk0
  have X : zX p s m args c cX9_shard "ShardTrails" 3 D cas ad (zA ad) := X
  unfold f_X9_shard at hf
  refine (?_ : WW p l e (zrm 3 68) s m args below meth c D cas ad (zA ad) 3 0 0 (MQ below (zQi D cas ad r M') args s 0 0 (zA ad)) 0 [(0, .ref (ad 0)), (1, .int (zI v1)), (2, .int (zI v2))] [] M)
  refine R_iload_n X 1 dX9_shard_0 rfl rfl ?_
  obtain ⟨r1, M2, hc3, hf⟩ := zbnd_some hf
  refine R_callSi X (av := [.int (zI v1)]) (rest := []) (c_X9_isShard l D cas ad hi hc3) zy_X9_isShard wm_X9_127 rfl rfl ⟨Nat.le_of_ble_eq_true rfl, Nat.le_of_ble_eq_true rfl⟩ ⟨Nat.le_refl _, Nat.le_refl _⟩ (Nat.le_of_ble_eq_true rfl) dX9_shard_1 ?_
  obtain ⟨hq4, hf⟩ := zgrd hf
  refine R_if_ne X 9 hq4 dX9_shard_4 (by decide) (fun c32 => ?_) (fun c32 => ?_)
  · have hf := zelse hf c32
    refine R_iload_n X 2 dX9_shard_9 rfl rfl ?_
    obtain ⟨hq5, hf⟩ := zgrd hf
    by_cases c7 : v2 = 0
    · have hf := zthen hf c7
      refine R_tableIn X (o := 42) 52 c7 dX9_shard_10 (by decide) (by decide) (by decide) (by decide +kernel) (by decide) ?_
      refine R_aload_n X 0 dX9_shard_52 rfl rfl ?_
      refine R_getR X (j := 0) 1 1 lc_0 rfl inX9 (by decide) rfl rfl (by decide) rfl rfl wf_X9_12 dX9_shard_53 ?_
      refine R_getR X (j := 7) 13 14 lc_1 rfl inX7 (by decide) rfl rfl (by decide) rfl rfl wf_X9_130 dX9_shard_56 ?_
      refine R_getR X (j := 0) 1 15 lc_14 rfl inX0 (by decide) rfl rfl (by decide) rfl rfl wf_X9_134 dX9_shard_59 ?_
      refine R_iload_n X 1 dX9_shard_62 rfl rfl ?_
      obtain ⟨hq6, hf⟩ := zgrd hf
      refine R_iald X lc_15 hq6 dX9_shard_63 ?_
      exact R_iret X hr hk0 dX9_shard_64 hf
    have hf := zelse hf c7
    by_cases c9 : v2 = 1
    · have hf := zthen hf c9
      refine R_tableIn X (o := 55) 65 c9 dX9_shard_10 (by decide) (by decide) (by decide) (by decide +kernel) (by decide) ?_
      refine R_aload_n X 0 dX9_shard_65 rfl rfl ?_
      refine R_getR X (j := 0) 1 1 lc_0 rfl inX9 (by decide) rfl rfl (by decide) rfl rfl wf_X9_12 dX9_shard_66 ?_
      refine R_getR X (j := 7) 13 14 lc_1 rfl inX7 (by decide) rfl rfl (by decide) rfl rfl wf_X9_130 dX9_shard_69 ?_
      refine R_getR X (j := 1) 2 16 lc_14 rfl inX0 (by decide) rfl rfl (by decide) rfl rfl wf_X9_236 dX9_shard_72 ?_
      refine R_iload_n X 1 dX9_shard_75 rfl rfl ?_
      obtain ⟨hq8, hf⟩ := zgrd hf
      refine R_iald X lc_16 hq8 dX9_shard_76 ?_
      exact R_iret X hr hk0 dX9_shard_77 hf
    have hf := zelse hf c9
    by_cases c11 : v2 = 2
    · have hf := zthen hf c11
      refine R_tableIn X (o := 68) 78 c11 dX9_shard_10 (by decide) (by decide) (by decide) (by decide +kernel) (by decide) ?_
      refine R_aload_n X 0 dX9_shard_78 rfl rfl ?_
      refine R_getR X (j := 0) 1 1 lc_0 rfl inX9 (by decide) rfl rfl (by decide) rfl rfl wf_X9_12 dX9_shard_79 ?_
      refine R_getR X (j := 7) 13 14 lc_1 rfl inX7 (by decide) rfl rfl (by decide) rfl rfl wf_X9_130 dX9_shard_82 ?_
      refine R_getR X (j := 2) 3 17 lc_14 rfl inX0 (by decide) rfl rfl (by decide) rfl rfl wf_X9_239 dX9_shard_85 ?_
      refine R_iload_n X 1 dX9_shard_88 rfl rfl ?_
      obtain ⟨hq10, hf⟩ := zgrd hf
      refine R_iald X lc_17 hq10 dX9_shard_89 ?_
      exact R_iret X hr hk0 dX9_shard_90 hf
    have hf := zelse hf c11
    by_cases c15 : v2 = 3
    · have hf := zthen hf c15
      refine R_tableIn X (o := 81) 91 c15 dX9_shard_10 (by decide) (by decide) (by decide) (by decide +kernel) (by decide) ?_
      refine R_aload_n X 0 dX9_shard_91 rfl rfl ?_
      refine R_getR X (j := 0) 1 1 lc_0 rfl inX9 (by decide) rfl rfl (by decide) rfl rfl wf_X9_12 dX9_shard_92 ?_
      refine R_getR X (j := 6) 10 11 lc_1 rfl inX7 (by decide) rfl rfl (by decide) rfl rfl wf_X9_198 dX9_shard_95 ?_
      refine R_iload_n X 1 dX9_shard_98 rfl rfl ?_
      obtain ⟨r12, M13, hc14, hf⟩ := zbnd_some hf
      refine R_callVi X (av := [.int (zI v1)]) (rest := []) (c_X8_countOf l D cas ad hi lc_11 hc14) zy_X8_countOf lc_11 rfl rfl wm_X9_242 rfl rfl ⟨Nat.le_of_ble_eq_true rfl, Nat.le_of_ble_eq_true rfl⟩ ⟨Nat.le_refl _, Nat.le_refl _⟩ (Nat.le_of_ble_eq_true rfl) dX9_shard_99 ?_
      exact R_iret X hr hk0 dX9_shard_102 hf
    have hf := zelse hf c15
    by_cases c19 : v2 = 4
    · have hf := zthen hf c19
      refine R_tableIn X (o := 93) 103 c19 dX9_shard_10 (by decide) (by decide) (by decide) (by decide +kernel) (by decide) ?_
      refine R_aload_n X 0 dX9_shard_103 rfl rfl ?_
      refine R_getR X (j := 0) 1 1 lc_0 rfl inX9 (by decide) rfl rfl (by decide) rfl rfl wf_X9_12 dX9_shard_104 ?_
      refine R_getR X (j := 7) 13 14 lc_1 rfl inX7 (by decide) rfl rfl (by decide) rfl rfl wf_X9_130 dX9_shard_107 ?_
      refine R_iload_n X 1 dX9_shard_110 rfl rfl ?_
      obtain ⟨r16, M17, hc18, hf⟩ := zbnd_some hf
      refine R_callVi X (av := [.int (zI v1)]) (rest := []) (c_X0_placeByHeat l D cas ad hi lc_14 hc18) zy_X0_placeByHeat lc_14 rfl rfl wm_X9_245 rfl rfl ⟨Nat.le_of_ble_eq_true rfl, Nat.le_of_ble_eq_true rfl⟩ ⟨Nat.le_refl _, Nat.le_refl _⟩ (Nat.le_of_ble_eq_true rfl) dX9_shard_111 ?_
      exact R_iret X hr hk0 dX9_shard_114 hf
    have hf := zelse hf c19
    by_cases c27 : v2 = 5
    · have hf := zthen hf c27
      refine R_tableIn X (o := 105) 115 c27 dX9_shard_10 (by decide) (by decide) (by decide) (by decide +kernel) (by decide) ?_
      refine R_aload_n X 0 dX9_shard_115 rfl rfl ?_
      refine R_getR X (j := 0) 1 1 lc_0 rfl inX9 (by decide) rfl rfl (by decide) rfl rfl wf_X9_12 dX9_shard_116 ?_
      refine R_getR X (j := 5) 3 4 lc_1 rfl inX7 (by decide) rfl rfl (by decide) rfl rfl wf_X9_47 dX9_shard_119 ?_
      refine R_aload_n X 0 dX9_shard_122 rfl rfl ?_
      refine R_getR X (j := 0) 1 1 lc_0 rfl inX9 (by decide) rfl rfl (by decide) rfl rfl wf_X9_12 dX9_shard_123 ?_
      refine R_getR X (j := 7) 13 14 lc_1 rfl inX7 (by decide) rfl rfl (by decide) rfl rfl wf_X9_130 dX9_shard_126 ?_
      refine R_getR X (j := 0) 1 15 lc_14 rfl inX0 (by decide) rfl rfl (by decide) rfl rfl wf_X9_134 dX9_shard_129 ?_
      refine R_iload_n X 1 dX9_shard_132 rfl rfl ?_
      obtain ⟨hq20, hf⟩ := zgrd hf
      refine R_iald X lc_15 hq20 dX9_shard_133 ?_
      refine R_aload_n X 0 dX9_shard_134 rfl rfl ?_
      refine R_getR X (j := 0) 1 1 lc_0 rfl inX9 (by decide) rfl rfl (by decide) rfl rfl wf_X9_12 dX9_shard_135 ?_
      obtain ⟨r21, M22, hc23, hf⟩ := zbnd_some hf
      refine R_callVi X (av := []) (rest := [.int (zI (M2 15 v1.toNat)), .ref (ad 4)]) (c_X7_seasonLatitude l D cas ad hi lc_1 hc23) zy_X7_seasonLatitude lc_1 rfl rfl wm_X9_207 rfl rfl ⟨Nat.le_of_ble_eq_true rfl, Nat.le_of_ble_eq_true rfl⟩ ⟨Nat.le_refl _, Nat.le_refl _⟩ (Nat.le_of_ble_eq_true rfl) dX9_shard_138 ?_
      obtain ⟨r24, M25, hc26, hf⟩ := zbnd_some hf
      refine R_callVi X (av := [.int (zI (M2 15 v1.toNat)), .int (zI r21)]) (rest := []) (c_X2_bestOther l D cas ad hi lc_4 hc26) zy_X2_bestOther lc_4 rfl rfl wm_X9_248 rfl rfl ⟨Nat.le_of_ble_eq_true rfl, Nat.le_of_ble_eq_true rfl⟩ ⟨Nat.le_refl _, Nat.le_refl _⟩ (Nat.le_of_ble_eq_true rfl) dX9_shard_141 ?_
      exact R_iret X hr hk0 dX9_shard_144 hf
    have hf := zelse hf c27
    by_cases c31 : v2 = 6
    · have hf := zthen hf c31
      refine R_tableIn X (o := 135) 145 c31 dX9_shard_10 (by decide) (by decide) (by decide) (by decide +kernel) (by decide) ?_
      refine R_aload_n X 0 dX9_shard_145 rfl rfl ?_
      refine R_getR X (j := 0) 1 1 lc_0 rfl inX9 (by decide) rfl rfl (by decide) rfl rfl wf_X9_12 dX9_shard_146 ?_
      refine R_getR X (j := 7) 13 14 lc_1 rfl inX7 (by decide) rfl rfl (by decide) rfl rfl wf_X9_130 dX9_shard_149 ?_
      refine R_iload_n X 1 dX9_shard_152 rfl rfl ?_
      obtain ⟨r28, M29, hc30, hf⟩ := zbnd_some hf
      refine R_callVi X (av := [.int (zI v1)]) (rest := []) (c_X0_sumOfValues l D cas ad hi lc_14 hc30) zy_X0_sumOfValues lc_14 rfl rfl wm_X9_251 rfl rfl ⟨Nat.le_of_ble_eq_true rfl, Nat.le_of_ble_eq_true rfl⟩ ⟨Nat.le_refl _, Nat.le_refl _⟩ (Nat.le_of_ble_eq_true rfl) dX9_shard_153 ?_
      exact R_iret X hr hk0 dX9_shard_156 hf
    have hf := zelse hf c31
    refine R_tableOut X 157 hq5 dX9_shard_10 (by omega) (by decide) ?_
    refine R_bipush X dX9_shard_157 (by decide +kernel) ?_
    exact R_iret X hr hk0 dX9_shard_159 hf
  · have hf := zthen hf c32
    refine R_iconst X dX9_shard_7 ?_
    exact R_iret X hr hk0 dX9_shard_8 hf
theorem dX9_track_0 : decode cX9_track 0 = .ok (.aload_n 0, 1) := by decide +kernel
theorem dX9_track_1 : decode cX9_track 1 = .ok (.iload_n 1, 1) := by decide +kernel
theorem dX9_track_2 : decode cX9_track 2 = .ok (.invokevirtual 65, 3) := by decide +kernel
theorem dX9_track_5 : decode cX9_track 5 = .ok (.ifCond .eq 10, 3) := by decide +kernel
theorem dX9_track_8 : decode cX9_track 8 = .ok (.iload_n 2, 1) := by decide +kernel
theorem dX9_track_9 : decode cX9_track 9 = .ok (.invokestatic 127, 3) := by decide +kernel
theorem dX9_track_12 : decode cX9_track 12 = .ok (.ifCond .ne 5, 3) := by decide +kernel
theorem dX9_track_15 : decode cX9_track 15 = .ok (.iconst (-1), 1) := by decide +kernel
theorem dX9_track_16 : decode cX9_track 16 = .ok (.ireturn, 1) := by decide +kernel
theorem dX9_track_17 : decode cX9_track 17 = .ok (.iload_n 3, 1) := by decide +kernel
theorem dX9_track_18 : decode cX9_track 18 = .ok (.tableswitch 97 0 2 #[26, 43, 80], 26) := by decide +kernel
theorem dX9_track_44 : decode cX9_track 44 = .ok (.aload_n 0, 1) := by decide +kernel
theorem dX9_track_45 : decode cX9_track 45 = .ok (.getfield 12, 3) := by decide +kernel
theorem dX9_track_48 : decode cX9_track 48 = .ok (.getfield 198, 3) := by decide +kernel
theorem dX9_track_51 : decode cX9_track 51 = .ok (.getfield 220, 3) := by decide +kernel
theorem dX9_track_54 : decode cX9_track 54 = .ok (.iload_n 1, 1) := by decide +kernel
theorem dX9_track_55 : decode cX9_track 55 = .ok (.iload_n 2, 1) := by decide +kernel
theorem dX9_track_56 : decode cX9_track 56 = .ok (.invokestatic 223, 3) := by decide +kernel
theorem dX9_track_59 : decode cX9_track 59 = .ok (.iaload, 1) := by decide +kernel
theorem dX9_track_60 : decode cX9_track 60 = .ok (.ireturn, 1) := by decide +kernel
theorem dX9_track_61 : decode cX9_track 61 = .ok (.aload_n 0, 1) := by decide +kernel
theorem dX9_track_62 : decode cX9_track 62 = .ok (.getfield 12, 3) := by decide +kernel
theorem dX9_track_65 : decode cX9_track 65 = .ok (.getfield 198, 3) := by decide +kernel
theorem dX9_track_68 : decode cX9_track 68 = .ok (.iload_n 1, 1) := by decide +kernel
theorem dX9_track_69 : decode cX9_track 69 = .ok (.iload_n 2, 1) := by decide +kernel
theorem dX9_track_70 : decode cX9_track 70 = .ok (.invokevirtual 226, 3) := by decide +kernel
theorem dX9_track_73 : decode cX9_track 73 = .ok (.ifCond .eq 22, 3) := by decide +kernel
theorem dX9_track_76 : decode cX9_track 76 = .ok (.aload_n 0, 1) := by decide +kernel
theorem dX9_track_77 : decode cX9_track 77 = .ok (.getfield 12, 3) := by decide +kernel
theorem dX9_track_80 : decode cX9_track 80 = .ok (.getfield 198, 3) := by decide +kernel
theorem dX9_track_83 : decode cX9_track 83 = .ok (.getfield 230, 3) := by decide +kernel
theorem dX9_track_86 : decode cX9_track 86 = .ok (.iload_n 1, 1) := by decide +kernel
theorem dX9_track_87 : decode cX9_track 87 = .ok (.iload_n 2, 1) := by decide +kernel
theorem dX9_track_88 : decode cX9_track 88 = .ok (.invokestatic 223, 3) := by decide +kernel
theorem dX9_track_91 : decode cX9_track 91 = .ok (.iaload, 1) := by decide +kernel
theorem dX9_track_92 : decode cX9_track 92 = .ok (.goto 5, 3) := by decide +kernel
theorem dX9_track_95 : decode cX9_track 95 = .ok (.bipush (-5), 2) := by decide +kernel
theorem dX9_track_97 : decode cX9_track 97 = .ok (.ireturn, 1) := by decide +kernel
theorem dX9_track_98 : decode cX9_track 98 = .ok (.aload_n 0, 1) := by decide +kernel
theorem dX9_track_99 : decode cX9_track 99 = .ok (.getfield 12, 3) := by decide +kernel
theorem dX9_track_102 : decode cX9_track 102 = .ok (.getfield 47, 3) := by decide +kernel
theorem dX9_track_105 : decode cX9_track 105 = .ok (.getfield 233, 3) := by decide +kernel
theorem dX9_track_108 : decode cX9_track 108 = .ok (.iload_n 1, 1) := by decide +kernel
theorem dX9_track_109 : decode cX9_track 109 = .ok (.iload_n 2, 1) := by decide +kernel
theorem dX9_track_110 : decode cX9_track 110 = .ok (.invokestatic 223, 3) := by decide +kernel
theorem dX9_track_113 : decode cX9_track 113 = .ok (.iaload, 1) := by decide +kernel
theorem dX9_track_114 : decode cX9_track 114 = .ok (.ireturn, 1) := by decide +kernel
theorem dX9_track_115 : decode cX9_track 115 = .ok (.bipush (-2), 2) := by decide +kernel
theorem dX9_track_117 : decode cX9_track 117 = .ok (.ireturn, 1) := by decide +kernel
set_option maxRecDepth 100000 in
set_option maxHeartbeats 4000000 in
theorem c_X9_track (l : Launch) (D : va_G) (cas : Nat → ClassId) (ad : Nat → Nat) (hi : zInj ad) {v1 : Int} {v2 : Int} {v3 : Int}  {r : Int} {M M' : Mem} (hf : f_X9_track v1 v2 v3 M = some (r, M')) : zMi l D cas ad yX9_track cX9_track 4 (some .int) 2 43 [.ref (ad 0), .int (zI v1), .int (zI v2), .int (zI v3)] M r M' := by
  refine zbody (by decide) (Nat.le_of_ble_eq_true rfl) hi ?_
  intro p e s m args below meth c X hr hk0
  have X : zX p s m args c cX9_track "ShardTrails" 4 D cas ad (zA ad) := X
  have hB15 : ∀ (M : Mem), f_X9_track_b15 M = some (r, M') → WW p l e (zrm 2 43) s m args below meth c D cas ad (zA ad) 4 0 0 (MQ below (zQi D cas ad r M') args s 0 0 (zA ad)) 15 [] [] M := by
    intro M hf
    unfold f_X9_track_b15 at hf
    refine R_iconst X dX9_track_15 ?_
    exact R_iret X hr hk0 dX9_track_16 hf
  have hB97 : ∀ (t1 : Int) (M : Mem), f_X9_track_b97 t1 M = some (r, M') → WW p l e (zrm 2 43) s m args below meth c D cas ad (zA ad) 4 0 0 (MQ below (zQi D cas ad r M') args s 0 0 (zA ad)) 97 [] [.int (zI t1)] M := by
    intro t1 M hf
    unfold f_X9_track_b97 at hf
    exact R_iret X hr hk0 dX9_track_97 hf
  unfold f_X9_track at hf
  refine (?_ : WW p l e (zrm 2 43) s m args below meth c D cas ad (zA ad) 4 0 0 (MQ below (zQi D cas ad r M') args s 0 0 (zA ad)) 0 [(0, .ref (ad 0)), (1, .int (zI v1)), (2, .int (zI v2)), (3, .int (zI v3))] [] M)
  refine R_aload_n X 0 dX9_track_0 rfl rfl ?_
  refine R_iload_n X 1 dX9_track_1 rfl rfl ?_
  obtain ⟨r1, M2, hc3, hf⟩ := zbnd_some hf
  refine R_callVi X (av := [.int (zI v1)]) (rest := []) (c_X9_isPasture l D cas ad hi hc3) zy_X9_isPasture lc_0 rfl rfl wm_X9_65 rfl rfl ⟨Nat.le_of_ble_eq_true rfl, Nat.le_of_ble_eq_true rfl⟩ ⟨Nat.le_refl _, Nat.le_refl _⟩ (Nat.le_of_ble_eq_true rfl) dX9_track_2 ?_
  obtain ⟨hq4, hf⟩ := zgrd hf
  refine R_if_eq X 15 hq4 dX9_track_5 (by decide) (fun c31 => ?_) (fun c31 => ?_)
  · have hf := zthen hf c31
    exact R_sub [] rfl (hB15 M2 hf)
  · have hf := zelse hf c31
    refine R_iload_n X 2 dX9_track_8 rfl rfl ?_
    obtain ⟨r5, M6, hc7, hf⟩ := zbnd_some hf
    refine R_callSi X (av := [.int (zI v2)]) (rest := []) (c_X9_isShard l D cas ad hi hc7) zy_X9_isShard wm_X9_127 rfl rfl ⟨Nat.le_of_ble_eq_true rfl, Nat.le_of_ble_eq_true rfl⟩ ⟨Nat.le_refl _, Nat.le_refl _⟩ (Nat.le_of_ble_eq_true rfl) dX9_track_9 ?_
    obtain ⟨hq8, hf⟩ := zgrd hf
    refine R_if_ne X 17 hq8 dX9_track_12 (by decide) (fun c30 => ?_) (fun c30 => ?_)
    · have hf := zelse hf c30
      refine R_iload_n X 3 dX9_track_17 rfl rfl ?_
      obtain ⟨hq9, hf⟩ := zgrd hf
      by_cases c14 : v3 = 0
      · have hf := zthen hf c14
        refine R_tableIn X (o := 26) 44 c14 dX9_track_18 (by decide) (by decide) (by decide) (by decide +kernel) (by decide) ?_
        refine R_aload_n X 0 dX9_track_44 rfl rfl ?_
        refine R_getR X (j := 0) 1 1 lc_0 rfl inX9 (by decide) rfl rfl (by decide) rfl rfl wf_X9_12 dX9_track_45 ?_
        refine R_getR X (j := 6) 10 11 lc_1 rfl inX7 (by decide) rfl rfl (by decide) rfl rfl wf_X9_198 dX9_track_48 ?_
        refine R_getR X (j := 0) 1 12 lc_11 rfl inX8 (by decide) rfl rfl (by decide) rfl rfl wf_X9_220 dX9_track_51 ?_
        refine R_iload_n X 1 dX9_track_54 rfl rfl ?_
        refine R_iload_n X 2 dX9_track_55 rfl rfl ?_
        obtain ⟨r10, M11, hc12, hf⟩ := zbnd_some hf
        refine R_callSi X (av := [.int (zI v1), .int (zI v2)]) (rest := [.ref (ad 12)]) (c_X9_cell l D cas ad hi hc12) zy_X9_cell wm_X9_223 rfl rfl ⟨Nat.le_of_ble_eq_true rfl, Nat.le_of_ble_eq_true rfl⟩ ⟨Nat.le_refl _, Nat.le_refl _⟩ (Nat.le_of_ble_eq_true rfl) dX9_track_56 ?_
        obtain ⟨hq13, hf⟩ := zgrd hf
        refine R_iald X lc_12 hq13 dX9_track_59 ?_
        exact R_iret X hr hk0 dX9_track_60 hf
      have hf := zelse hf c14
      by_cases c24 : v3 = 1
      · have hf := zthen hf c24
        refine R_tableIn X (o := 43) 61 c24 dX9_track_18 (by decide) (by decide) (by decide) (by decide +kernel) (by decide) ?_
        refine R_aload_n X 0 dX9_track_61 rfl rfl ?_
        refine R_getR X (j := 0) 1 1 lc_0 rfl inX9 (by decide) rfl rfl (by decide) rfl rfl wf_X9_12 dX9_track_62 ?_
        refine R_getR X (j := 6) 10 11 lc_1 rfl inX7 (by decide) rfl rfl (by decide) rfl rfl wf_X9_198 dX9_track_65 ?_
        refine R_iload_n X 1 dX9_track_68 rfl rfl ?_
        refine R_iload_n X 2 dX9_track_69 rfl rfl ?_
        obtain ⟨r15, M16, hc17, hf⟩ := zbnd_some hf
        refine R_callVi X (av := [.int (zI v1), .int (zI v2)]) (rest := []) (c_X8_isAt l D cas ad hi lc_11 hc17) zy_X8_isAt lc_11 rfl rfl wm_X9_226 rfl rfl ⟨Nat.le_of_ble_eq_true rfl, Nat.le_of_ble_eq_true rfl⟩ ⟨Nat.le_refl _, Nat.le_refl _⟩ (Nat.le_of_ble_eq_true rfl) dX9_track_70 ?_
        obtain ⟨hq18, hf⟩ := zgrd hf
        refine R_if_eq X 95 hq18 dX9_track_73 (by decide) (fun c23 => ?_) (fun c23 => ?_)
        · have hf := zthen hf c23
          refine R_bipush X dX9_track_95 (by decide +kernel) ?_
          exact R_sub [] rfl (hB97 (-5) M16 hf)
        · have hf := zelse hf c23
          refine R_aload_n X 0 dX9_track_76 rfl rfl ?_
          refine R_getR X (j := 0) 1 1 lc_0 rfl inX9 (by decide) rfl rfl (by decide) rfl rfl wf_X9_12 dX9_track_77 ?_
          refine R_getR X (j := 6) 10 11 lc_1 rfl inX7 (by decide) rfl rfl (by decide) rfl rfl wf_X9_198 dX9_track_80 ?_
          refine R_getR X (j := 1) 2 13 lc_11 rfl inX8 (by decide) rfl rfl (by decide) rfl rfl wf_X9_230 dX9_track_83 ?_
          refine R_iload_n X 1 dX9_track_86 rfl rfl ?_
          refine R_iload_n X 2 dX9_track_87 rfl rfl ?_
          obtain ⟨r19, M20, hc21, hf⟩ := zbnd_some hf
          refine R_callSi X (av := [.int (zI v1), .int (zI v2)]) (rest := [.ref (ad 13)]) (c_X9_cell l D cas ad hi hc21) zy_X9_cell wm_X9_223 rfl rfl ⟨Nat.le_of_ble_eq_true rfl, Nat.le_of_ble_eq_true rfl⟩ ⟨Nat.le_refl _, Nat.le_refl _⟩ (Nat.le_of_ble_eq_true rfl) dX9_track_88 ?_
          obtain ⟨hq22, hf⟩ := zgrd hf
          refine R_iald X lc_13 hq22 dX9_track_91 ?_
          refine R_goto X 97 dX9_track_92 (by decide) ?_
          exact R_sub [] rfl (hB97 (M20 13 r19.toNat) M20 hf)
      have hf := zelse hf c24
      by_cases c29 : v3 = 2
      · have hf := zthen hf c29
        refine R_tableIn X (o := 80) 98 c29 dX9_track_18 (by decide) (by decide) (by decide) (by decide +kernel) (by decide) ?_
        refine R_aload_n X 0 dX9_track_98 rfl rfl ?_
        refine R_getR X (j := 0) 1 1 lc_0 rfl inX9 (by decide) rfl rfl (by decide) rfl rfl wf_X9_12 dX9_track_99 ?_
        refine R_getR X (j := 5) 3 4 lc_1 rfl inX7 (by decide) rfl rfl (by decide) rfl rfl wf_X9_47 dX9_track_102 ?_
        refine R_getR X (j := 6) 6 10 lc_4 rfl inX2 (by decide) rfl rfl (by decide) rfl rfl wf_X9_233 dX9_track_105 ?_
        refine R_iload_n X 1 dX9_track_108 rfl rfl ?_
        refine R_iload_n X 2 dX9_track_109 rfl rfl ?_
        obtain ⟨r25, M26, hc27, hf⟩ := zbnd_some hf
        refine R_callSi X (av := [.int (zI v1), .int (zI v2)]) (rest := [.ref (ad 10)]) (c_X9_cell l D cas ad hi hc27) zy_X9_cell wm_X9_223 rfl rfl ⟨Nat.le_of_ble_eq_true rfl, Nat.le_of_ble_eq_true rfl⟩ ⟨Nat.le_refl _, Nat.le_refl _⟩ (Nat.le_of_ble_eq_true rfl) dX9_track_110 ?_
        obtain ⟨hq28, hf⟩ := zgrd hf
        refine R_iald X lc_10 hq28 dX9_track_113 ?_
        exact R_iret X hr hk0 dX9_track_114 hf
      have hf := zelse hf c29
      refine R_tableOut X 115 hq9 dX9_track_18 (by omega) (by decide) ?_
      refine R_bipush X dX9_track_115 (by decide +kernel) ?_
      exact R_iret X hr hk0 dX9_track_117 hf
    · have hf := zthen hf c30
      exact R_sub [] rfl (hB15 M6 hf)
theorem dX5_append_0 : decode cX5_append 0 = .ok (.aload_n 0, 1) := by decide +kernel
theorem dX5_append_1 : decode cX5_append 1 = .ok (.getfield 25, 3) := by decide +kernel
theorem dX5_append_4 : decode cX5_append 4 = .ok (.bipush 60, 2) := by decide +kernel
theorem dX5_append_6 : decode cX5_append 6 = .ok (.if_icmp .ge 23, 3) := by decide +kernel
theorem dX5_append_9 : decode cX5_append 9 = .ok (.aload_n 0, 1) := by decide +kernel
theorem dX5_append_10 : decode cX5_append 10 = .ok (.getfield 21, 3) := by decide +kernel
theorem dX5_append_13 : decode cX5_append 13 = .ok (.aload_n 0, 1) := by decide +kernel
theorem dX5_append_14 : decode cX5_append 14 = .ok (.getfield 25, 3) := by decide +kernel
theorem dX5_append_17 : decode cX5_append 17 = .ok (.iload_n 1, 1) := by decide +kernel
theorem dX5_append_18 : decode cX5_append 18 = .ok (.castore, 1) := by decide +kernel
theorem dX5_append_19 : decode cX5_append 19 = .ok (.aload_n 0, 1) := by decide +kernel
theorem dX5_append_20 : decode cX5_append 20 = .ok (.dup, 1) := by decide +kernel
theorem dX5_append_21 : decode cX5_append 21 = .ok (.getfield 25, 3) := by decide +kernel
theorem dX5_append_24 : decode cX5_append 24 = .ok (.iconst 1, 1) := by decide +kernel
theorem dX5_append_25 : decode cX5_append 25 = .ok (.iadd, 1) := by decide +kernel
theorem dX5_append_26 : decode cX5_append 26 = .ok (.putfield 25, 3) := by decide +kernel
theorem dX5_append_29 : decode cX5_append 29 = .ok (.return_, 1) := by decide +kernel
set_option maxRecDepth 100000 in
set_option maxHeartbeats 4000000 in
theorem c_X5_append (l : Launch) (D : va_G) (cas : Nat → ClassId) (ad : Nat → Nat) (hi : zInj ad) {v1 : Int}  {r : Int} {M M' : Mem} (hf : f_X5_append v1 M = some (r, M')) : zMv l D cas ad yX5_append cX5_append 2 0 0 [.ref (ad 210), .int (zI v1)] M M' := by
  refine zbody (by decide) (Nat.le_of_ble_eq_true rfl) hi ?_
  intro p e s m args below meth c X hr hk0
  have X : zX p s m args c cX5_append "ShardTrails$RequestText" 2 D cas ad (zA ad) := X
  have hB29 : ∀ (M : Mem), f_X5_append_b29 M = some (r, M') → WW p l e (zrm 0 0) s m args below meth c D cas ad (zA ad) 2 0 0 (MQ below (zQv D cas ad M') args s 0 0 (zA ad)) 29 [] [] M := by
    intro M hf
    unfold f_X5_append_b29 at hf
    exact R_vret X hr hk0 dX5_append_29 hf
  unfold f_X5_append at hf
  refine (?_ : WW p l e (zrm 0 0) s m args below meth c D cas ad (zA ad) 2 0 0 (MQ below (zQv D cas ad M') args s 0 0 (zA ad)) 0 [(0, .ref (ad 210)), (1, .int (zI v1))] [] M)
  refine R_aload_n X 0 dX5_append_0 rfl rfl ?_
  refine R_getI X (j := 0) lc_210 rfl inX5 (by decide) rfl rfl rfl wf_X5_25 dX5_append_1 ?_
  refine R_bipush X dX5_append_4 (by decide +kernel) ?_
  obtain ⟨hq1, hf⟩ := zgrd hf
  refine R_icmp_ge X 29 ⟨hq1, (by decide)⟩ dX5_append_6 (by decide) (fun c6 => ?_) (fun c6 => ?_)
  · have hf := zthen hf c6
    exact R_sub [] rfl (hB29 M hf)
  · have hf := zelse hf c6
    refine R_aload_n X 0 dX5_append_9 rfl rfl ?_
    refine R_getR X (j := 5) 4 214 lc_210 rfl inX5 (by decide) rfl rfl (by decide) rfl rfl wf_X5_21 dX5_append_10 ?_
    refine R_aload_n X 0 dX5_append_13 rfl rfl ?_
    refine R_getI X (j := 0) lc_210 rfl inX5 (by decide) rfl rfl rfl wf_X5_25 dX5_append_14 ?_
    refine R_iload_n X 1 dX5_append_17 rfl rfl ?_
    obtain ⟨hq2, hf⟩ := zgrd hf
    obtain ⟨hq3, hf⟩ := zgrd hf
    obtain ⟨M4, eM4, hf⟩ := zlt_some hf
    refine R_cast X lc_214 hq2 hq3 dX5_append_18 ?_
    refine R_mem eM4 ?_
    refine R_aload_n X 0 dX5_append_19 rfl rfl ?_
    refine R_dup X dX5_append_20 rfl ?_
    refine R_getI X (j := 0) lc_210 rfl inX5 (by decide) rfl rfl rfl wf_X5_25 dX5_append_21 ?_
    refine R_iconst X dX5_append_24 ?_
    refine R_iadd X dX5_append_25 ?_
    obtain ⟨M5, eM5, hf⟩ := zlt_some hf
    refine R_put X (j := 0) lc_210 rfl inX5 tyX5_ok nmX5 (by decide) rfl rfl rfl wf_X5_25 rfl (by decide +kernel) (z_nI _) (z_fI _) dX5_append_26 ?_
    refine R_mem eM5 ?_
    exact R_sub [] rfl (hB29 M5 hf)
theorem dX9_type_0 : decode cX9_type 0 = .ok (.aload_n 0, 1) := by decide +kernel
theorem dX9_type_1 : decode cX9_type 1 = .ok (.getfield 39, 3) := by decide +kernel
theorem dX9_type_4 : decode cX9_type 4 = .ok (.getfield 165, 3) := by decide +kernel
theorem dX9_type_7 : decode cX9_type 7 = .ok (.bipush 60, 2) := by decide +kernel
theorem dX9_type_9 : decode cX9_type 9 = .ok (.if_icmp .lt 6, 3) := by decide +kernel
theorem dX9_type_12 : decode cX9_type 12 = .ok (.bipush (-3), 2) := by decide +kernel
theorem dX9_type_14 : decode cX9_type 14 = .ok (.ireturn, 1) := by decide +kernel
theorem dX9_type_15 : decode cX9_type 15 = .ok (.aload_n 0, 1) := by decide +kernel
theorem dX9_type_16 : decode cX9_type 16 = .ok (.getfield 39, 3) := by decide +kernel
theorem dX9_type_19 : decode cX9_type 19 = .ok (.iload_n 1, 1) := by decide +kernel
theorem dX9_type_20 : decode cX9_type 20 = .ok (.invokevirtual 168, 3) := by decide +kernel
theorem dX9_type_23 : decode cX9_type 23 = .ok (.aload_n 0, 1) := by decide +kernel
theorem dX9_type_24 : decode cX9_type 24 = .ok (.getfield 39, 3) := by decide +kernel
theorem dX9_type_27 : decode cX9_type 27 = .ok (.getfield 165, 3) := by decide +kernel
theorem dX9_type_30 : decode cX9_type 30 = .ok (.ireturn, 1) := by decide +kernel
set_option maxRecDepth 100000 in
set_option maxHeartbeats 4000000 in
theorem c_X9_type (l : Launch) (D : va_G) (cas : Nat → ClassId) (ad : Nat → Nat) (hi : zInj ad) {v1 : Int}  {r : Int} {M M' : Mem} (hf : f_X9_type v1 M = some (r, M')) : zMi l D cas ad yX9_type cX9_type 2 (some .int) 1 21 [.ref (ad 0), .int (zI v1)] M r M' := by
  refine zbody (by decide) (Nat.le_of_ble_eq_true rfl) hi ?_
  intro p e s m args below meth c X hr hk0
  have X : zX p s m args c cX9_type "ShardTrails" 2 D cas ad (zA ad) := X
  unfold f_X9_type at hf
  refine (?_ : WW p l e (zrm 1 21) s m args below meth c D cas ad (zA ad) 2 0 0 (MQ below (zQi D cas ad r M') args s 0 0 (zA ad)) 0 [(0, .ref (ad 0)), (1, .int (zI v1))] [] M)
  refine R_aload_n X 0 dX9_type_0 rfl rfl ?_
  refine R_getR X (j := 5) 210 210 lc_0 rfl inX9 (by decide) rfl rfl (by decide) rfl rfl wf_X9_39 dX9_type_1 ?_
  refine R_getI X (j := 0) lc_210 rfl inX5 (by decide) rfl rfl rfl wf_X9_165 dX9_type_4 ?_
  refine R_bipush X dX9_type_7 (by decide +kernel) ?_
  obtain ⟨hq1, hf⟩ := zgrd hf
  refine R_icmp_lt X 15 ⟨hq1, (by decide)⟩ dX9_type_9 (by decide) (fun c5 => ?_) (fun c5 => ?_)
  · have hf := zthen hf c5
    refine R_aload_n X 0 dX9_type_15 rfl rfl ?_
    refine R_getR X (j := 5) 210 210 lc_0 rfl inX9 (by decide) rfl rfl (by decide) rfl rfl wf_X9_39 dX9_type_16 ?_
    refine R_iload_n X 1 dX9_type_19 rfl rfl ?_
    obtain ⟨r2, M3, hc4, hf⟩ := zbnd_some hf
    refine R_callVv X (av := [.int (zI v1)]) (rest := []) (c_X5_append l D cas ad hi hc4) zy_X5_append lc_210 rfl rfl wm_X9_168 rfl rfl ⟨Nat.le_of_ble_eq_true rfl, Nat.le_of_ble_eq_true rfl⟩ ⟨Nat.le_refl _, Nat.le_refl _⟩ (Nat.le_of_ble_eq_true rfl) dX9_type_20 ?_
    refine R_aload_n X 0 dX9_type_23 rfl rfl ?_
    refine R_getR X (j := 5) 210 210 lc_0 rfl inX9 (by decide) rfl rfl (by decide) rfl rfl wf_X9_39 dX9_type_24 ?_
    refine R_getI X (j := 0) lc_210 rfl inX5 (by decide) rfl rfl rfl wf_X9_165 dX9_type_27 ?_
    exact R_iret X hr hk0 dX9_type_30 hf
  · have hf := zelse hf c5
    refine R_bipush X dX9_type_12 (by decide +kernel) ?_
    exact R_iret X hr hk0 dX9_type_14 hf
theorem dX1_takeBack_0 : decode cX1_takeBack 0 = .ok (.aload_n 0, 1) := by decide +kernel
theorem dX1_takeBack_1 : decode cX1_takeBack 1 = .ok (.getfield 22, 3) := by decide +kernel
theorem dX1_takeBack_4 : decode cX1_takeBack 4 = .ok (.ifCond .le 33, 3) := by decide +kernel
theorem dX1_takeBack_7 : decode cX1_takeBack 7 = .ok (.aload_n 0, 1) := by decide +kernel
theorem dX1_takeBack_8 : decode cX1_takeBack 8 = .ok (.dup, 1) := by decide +kernel
theorem dX1_takeBack_9 : decode cX1_takeBack 9 = .ok (.getfield 22, 3) := by decide +kernel
theorem dX1_takeBack_12 : decode cX1_takeBack 12 = .ok (.iconst 1, 1) := by decide +kernel
theorem dX1_takeBack_13 : decode cX1_takeBack 13 = .ok (.isub, 1) := by decide +kernel
theorem dX1_takeBack_14 : decode cX1_takeBack 14 = .ok (.putfield 22, 3) := by decide +kernel
theorem dX1_takeBack_17 : decode cX1_takeBack 17 = .ok (.aload_n 1, 1) := by decide +kernel
theorem dX1_takeBack_18 : decode cX1_takeBack 18 = .ok (.aload_n 0, 1) := by decide +kernel
theorem dX1_takeBack_19 : decode cX1_takeBack 19 = .ok (.getfield 11, 3) := by decide +kernel
theorem dX1_takeBack_22 : decode cX1_takeBack 22 = .ok (.aload_n 0, 1) := by decide +kernel
theorem dX1_takeBack_23 : decode cX1_takeBack 23 = .ok (.getfield 18, 3) := by decide +kernel
theorem dX1_takeBack_26 : decode cX1_takeBack 26 = .ok (.aload_n 0, 1) := by decide +kernel
theorem dX1_takeBack_27 : decode cX1_takeBack 27 = .ok (.getfield 22, 3) := by decide +kernel
theorem dX1_takeBack_30 : decode cX1_takeBack 30 = .ok (.iadd, 1) := by decide +kernel
theorem dX1_takeBack_31 : decode cX1_takeBack 31 = .ok (.iconst 4, 1) := by decide +kernel
theorem dX1_takeBack_32 : decode cX1_takeBack 32 = .ok (.irem, 1) := by decide +kernel
theorem dX1_takeBack_33 : decode cX1_takeBack 33 = .ok (.aaload, 1) := by decide +kernel
theorem dX1_takeBack_34 : decode cX1_takeBack 34 = .ok (.invokevirtual 25, 3) := by decide +kernel
theorem dX1_takeBack_37 : decode cX1_takeBack 37 = .ok (.return_, 1) := by decide +kernel
set_option maxRecDepth 100000 in
set_option maxHeartbeats 4000000 in
theorem c_X1_takeBack (l : Launch) (D : va_G) (cas : Nat → ClassId) (ad : Nat → Nat) (hi : zInj ad) {k1 : Nat}  (hk1 : k1 < zN ∧ lay k1 = (0, 7)) {r : Int} {M M' : Mem} (hf : f_X1_takeBack k1 M = some (r, M')) : zMv l D cas ad yX1_takeBack cX1_takeBack 2 4 90 [.ref (ad 88), .ref (ad k1)] M M' := by
  refine zbody (by decide) (Nat.le_of_ble_eq_true rfl) hi ?_
  intro p e s m args below meth c X hr hk0
  have X : zX p s m args c cX1_takeBack "ShardTrails$History" 2 D cas ad (zA ad) := X
  have hB37 : ∀ (M : Mem), f_X1_takeBack_b37 k1 M = some (r, M') → WW p l e (zrm 4 90) s m args below meth c D cas ad (zA ad) 2 0 0 (MQ below (zQv D cas ad M') args s 0 0 (zA ad)) 37 [] [] M := by
    intro M hf
    unfold f_X1_takeBack_b37 at hf
    exact R_vret X hr hk0 dX1_takeBack_37 hf
  unfold f_X1_takeBack at hf
  refine (?_ : WW p l e (zrm 4 90) s m args below meth c D cas ad (zA ad) 2 0 0 (MQ below (zQv D cas ad M') args s 0 0 (zA ad)) 0 [(0, .ref (ad 88)), (1, .ref (ad k1))] [] M)
  refine R_aload_n X 0 dX1_takeBack_0 rfl rfl ?_
  refine R_getI X (j := 0) lc_88 rfl inX1 (by decide) rfl rfl rfl wf_X1_22 dX1_takeBack_1 ?_
  obtain ⟨hq1, hf⟩ := zgrd hf
  refine R_if_le X 37 hq1 dX1_takeBack_4 (by decide) (fun c8 => ?_) (fun c8 => ?_)
  · have hf := zthen hf c8
    exact R_sub [] rfl (hB37 M hf)
  · have hf := zelse hf c8
    refine R_aload_n X 0 dX1_takeBack_7 rfl rfl ?_
    refine R_dup X dX1_takeBack_8 rfl ?_
    refine R_getI X (j := 0) lc_88 rfl inX1 (by decide) rfl rfl rfl wf_X1_22 dX1_takeBack_9 ?_
    refine R_iconst X dX1_takeBack_12 ?_
    refine R_isub X dX1_takeBack_13 ?_
    obtain ⟨M2, eM2, hf⟩ := zlt_some hf
    refine R_put X (j := 0) lc_88 rfl inX1 tyX1_ok nmX1 (by decide) rfl rfl rfl wf_X1_22 rfl (by decide +kernel) (z_nI _) (z_fI _) dX1_takeBack_14 ?_
    refine R_mem eM2 ?_
    refine R_aload_n X 1 dX1_takeBack_17 rfl rfl ?_
    refine R_aload_n X 0 dX1_takeBack_18 rfl rfl ?_
    refine R_getR X (j := 2) 1 89 lc_88 rfl inX1 (by decide) rfl rfl (by decide) rfl rfl wf_X1_11 dX1_takeBack_19 ?_
    refine R_aload_n X 0 dX1_takeBack_22 rfl rfl ?_
    refine R_getI X (j := 1) lc_88 rfl inX1 (by decide) rfl rfl rfl wf_X1_18 dX1_takeBack_23 ?_
    refine R_aload_n X 0 dX1_takeBack_26 rfl rfl ?_
    refine R_getI X (j := 0) lc_88 rfl inX1 (by decide) rfl rfl rfl wf_X1_22 dX1_takeBack_27 ?_
    refine R_iadd X dX1_takeBack_30 ?_
    refine R_iconst X dX1_takeBack_31 ?_
    obtain ⟨hq3, hf⟩ := zgrd hf
    refine R_irem X ⟨⟨hq3, (by decide)⟩, (by decide)⟩ dX1_takeBack_32 ?_
    obtain ⟨hq4, hf⟩ := zgrd hf
    refine R_aald X (90 + 29 * (((M2 88 1) + (M2 88 0)).tmod 4).toNat) lc_89 hq4 rfl dX1_takeBack_33 ?_
    obtain ⟨r5, M6, hc7, hf⟩ := zbnd_some hf
    refine R_callVv X (av := [.ref (ad (90 + 29 * (((M2 88 1) + (M2 88 0)).tmod 4).toNat))]) (rest := []) (c_X7_copyFrom l D cas ad hi hk1 (pt_st hq4) hc7) zy_X7_copyFrom hk1 rfl rfl wm_X1_25 rfl rfl ⟨Nat.le_of_ble_eq_true rfl, Nat.le_of_ble_eq_true rfl⟩ ⟨Nat.le_refl _, Nat.le_refl _⟩ (Nat.le_of_ble_eq_true rfl) dX1_takeBack_34 ?_
    exact R_sub [] rfl (hB37 M6 hf)
theorem dX9_undo_0 : decode cX9_undo 0 = .ok (.aload_n 0, 1) := by decide +kernel
theorem dX9_undo_1 : decode cX9_undo 1 = .ok (.getfield 25, 3) := by decide +kernel
theorem dX9_undo_4 : decode cX9_undo 4 = .ok (.getfield 184, 3) := by decide +kernel
theorem dX9_undo_7 : decode cX9_undo 7 = .ok (.iconst 1, 1) := by decide +kernel
theorem dX9_undo_8 : decode cX9_undo 8 = .ok (.if_icmp .ge 6, 3) := by decide +kernel
theorem dX9_undo_11 : decode cX9_undo 11 = .ok (.bipush (-5), 2) := by decide +kernel
theorem dX9_undo_13 : decode cX9_undo 13 = .ok (.ireturn, 1) := by decide +kernel
theorem dX9_undo_14 : decode cX9_undo 14 = .ok (.aload_n 0, 1) := by decide +kernel
theorem dX9_undo_15 : decode cX9_undo 15 = .ok (.getfield 25, 3) := by decide +kernel
theorem dX9_undo_18 : decode cX9_undo 18 = .ok (.aload_n 0, 1) := by decide +kernel
theorem dX9_undo_19 : decode cX9_undo 19 = .ok (.getfield 12, 3) := by decide +kernel
theorem dX9_undo_22 : decode cX9_undo 22 = .ok (.invokevirtual 185, 3) := by decide +kernel
theorem dX9_undo_25 : decode cX9_undo 25 = .ok (.aload_n 0, 1) := by decide +kernel
theorem dX9_undo_26 : decode cX9_undo 26 = .ok (.getfield 25, 3) := by decide +kernel
theorem dX9_undo_29 : decode cX9_undo 29 = .ok (.getfield 184, 3) := by decide +kernel
theorem dX9_undo_32 : decode cX9_undo 32 = .ok (.ireturn, 1) := by decide +kernel
set_option maxRecDepth 100000 in
set_option maxHeartbeats 4000000 in
theorem c_X9_undo (l : Launch) (D : va_G) (cas : Nat → ClassId) (ad : Nat → Nat) (hi : zInj ad)   {r : Int} {M M' : Mem} (hf : f_X9_undo M = some (r, M')) : zMi l D cas ad yX9_undo cX9_undo 1 (some .int) 5 111 [.ref (ad 0)] M r M' := by
  refine zbody (by decide) (Nat.le_of_ble_eq_true rfl) hi ?_
  intro p e s m args below meth c X hr hk0
  have X : zX p s m args c cX9_undo "ShardTrails" 1 D cas ad (zA ad) := X
  unfold f_X9_undo at hf
  refine (?_ : WW p l e (zrm 5 111) s m args below meth c D cas ad (zA ad) 1 0 0 (MQ below (zQi D cas ad r M') args s 0 0 (zA ad)) 0 [(0, .ref (ad 0))] [] M)
  refine R_aload_n X 0 dX9_undo_0 rfl rfl ?_
  refine R_getR X (j := 3) 88 88 lc_0 rfl inX9 (by decide) rfl rfl (by decide) rfl rfl wf_X9_25 dX9_undo_1 ?_
  refine R_getI X (j := 0) lc_88 rfl inX1 (by decide) rfl rfl rfl wf_X9_184 dX9_undo_4 ?_
  refine R_iconst X dX9_undo_7 ?_
  obtain ⟨hq1, hf⟩ := zgrd hf
  refine R_icmp_ge X 14 ⟨hq1, (by decide)⟩ dX9_undo_8 (by decide) (fun c5 => ?_) (fun c5 => ?_)
  · have hf := zthen hf c5
    refine R_aload_n X 0 dX9_undo_14 rfl rfl ?_
    refine R_getR X (j := 3) 88 88 lc_0 rfl inX9 (by decide) rfl rfl (by decide) rfl rfl wf_X9_25 dX9_undo_15 ?_
    refine R_aload_n X 0 dX9_undo_18 rfl rfl ?_
    refine R_getR X (j := 0) 1 1 lc_0 rfl inX9 (by decide) rfl rfl (by decide) rfl rfl wf_X9_12 dX9_undo_19 ?_
    obtain ⟨r2, M3, hc4, hf⟩ := zbnd_some hf
    refine R_callVv X (av := [.ref (ad 1)]) (rest := []) (c_X1_takeBack l D cas ad hi lc_1 hc4) zy_X1_takeBack lc_88 rfl rfl wm_X9_185 rfl rfl ⟨Nat.le_of_ble_eq_true rfl, Nat.le_of_ble_eq_true rfl⟩ ⟨Nat.le_refl _, Nat.le_refl _⟩ (Nat.le_of_ble_eq_true rfl) dX9_undo_22 ?_
    refine R_aload_n X 0 dX9_undo_25 rfl rfl ?_
    refine R_getR X (j := 3) 88 88 lc_0 rfl inX9 (by decide) rfl rfl (by decide) rfl rfl wf_X9_25 dX9_undo_26 ?_
    refine R_getI X (j := 0) lc_88 rfl inX1 (by decide) rfl rfl rfl wf_X9_184 dX9_undo_29 ?_
    exact R_iret X hr hk0 dX9_undo_32 hf
  · have hf := zelse hf c5
    refine R_bipush X dX9_undo_11 (by decide +kernel) ?_
    exact R_iret X hr hk0 dX9_undo_13 hf
theorem dX9_value_0 : decode cX9_value 0 = .ok (.iload_n 1, 1) := by decide +kernel
theorem dX9_value_1 : decode cX9_value 1 = .ok (.invokestatic 158, 3) := by decide +kernel
theorem dX9_value_4 : decode cX9_value 4 = .ok (.ifCond .eq 18, 3) := by decide +kernel
theorem dX9_value_7 : decode cX9_value 7 = .ok (.aload_n 0, 1) := by decide +kernel
theorem dX9_value_8 : decode cX9_value 8 = .ok (.getfield 12, 3) := by decide +kernel
theorem dX9_value_11 : decode cX9_value 11 = .ok (.getfield 130, 3) := by decide +kernel
theorem dX9_value_14 : decode cX9_value 14 = .ok (.getfield 254, 3) := by decide +kernel
theorem dX9_value_17 : decode cX9_value 17 = .ok (.iload_n 1, 1) := by decide +kernel
theorem dX9_value_18 : decode cX9_value 18 = .ok (.iaload, 1) := by decide +kernel
theorem dX9_value_19 : decode cX9_value 19 = .ok (.goto 4, 3) := by decide +kernel
theorem dX9_value_22 : decode cX9_value 22 = .ok (.iconst (-1), 1) := by decide +kernel
theorem dX9_value_23 : decode cX9_value 23 = .ok (.ireturn, 1) := by decide +kernel
set_option maxRecDepth 100000 in
set_option maxHeartbeats 4000000 in
theorem c_X9_value (l : Launch) (D : va_G) (cas : Nat → ClassId) (ad : Nat → Nat) (hi : zInj ad) {v1 : Int}  {r : Int} {M M' : Mem} (hf : f_X9_value v1 M = some (r, M')) : zMi l D cas ad yX9_value cX9_value 2 (some .int) 2 42 [.ref (ad 0), .int (zI v1)] M r M' := by
  refine zbody (by decide) (Nat.le_of_ble_eq_true rfl) hi ?_
  intro p e s m args below meth c X hr hk0
  have X : zX p s m args c cX9_value "ShardTrails" 2 D cas ad (zA ad) := X
  have hB23 : ∀ (t1 : Int) (M : Mem), f_X9_value_b23 t1 M = some (r, M') → WW p l e (zrm 2 42) s m args below meth c D cas ad (zA ad) 2 0 0 (MQ below (zQi D cas ad r M') args s 0 0 (zA ad)) 23 [] [.int (zI t1)] M := by
    intro t1 M hf
    unfold f_X9_value_b23 at hf
    exact R_iret X hr hk0 dX9_value_23 hf
  unfold f_X9_value at hf
  refine (?_ : WW p l e (zrm 2 42) s m args below meth c D cas ad (zA ad) 2 0 0 (MQ below (zQi D cas ad r M') args s 0 0 (zA ad)) 0 [(0, .ref (ad 0)), (1, .int (zI v1))] [] M)
  refine R_iload_n X 1 dX9_value_0 rfl rfl ?_
  obtain ⟨r1, M2, hc3, hf⟩ := zbnd_some hf
  refine R_callSi X (av := [.int (zI v1)]) (rest := []) (c_X9_isKey l D cas ad hi hc3) zy_X9_isKey wm_X9_158 rfl rfl ⟨Nat.le_of_ble_eq_true rfl, Nat.le_of_ble_eq_true rfl⟩ ⟨Nat.le_refl _, Nat.le_refl _⟩ (Nat.le_of_ble_eq_true rfl) dX9_value_1 ?_
  obtain ⟨hq4, hf⟩ := zgrd hf
  refine R_if_eq X 22 hq4 dX9_value_4 (by decide) (fun c6 => ?_) (fun c6 => ?_)
  · have hf := zthen hf c6
    refine R_iconst X dX9_value_22 ?_
    exact R_sub [] rfl (hB23 (-1) M2 hf)
  · have hf := zelse hf c6
    refine R_aload_n X 0 dX9_value_7 rfl rfl ?_
    refine R_getR X (j := 0) 1 1 lc_0 rfl inX9 (by decide) rfl rfl (by decide) rfl rfl wf_X9_12 dX9_value_8 ?_
    refine R_getR X (j := 7) 13 14 lc_1 rfl inX7 (by decide) rfl rfl (by decide) rfl rfl wf_X9_130 dX9_value_11 ?_
    refine R_getR X (j := 3) 4 18 lc_14 rfl inX0 (by decide) rfl rfl (by decide) rfl rfl wf_X9_254 dX9_value_14 ?_
    refine R_iload_n X 1 dX9_value_17 rfl rfl ?_
    obtain ⟨hq5, hf⟩ := zgrd hf
    refine R_iald X lc_18 hq5 dX9_value_18 ?_
    refine R_goto X 23 dX9_value_19 (by decide) ?_
    exact R_sub [] rfl (hB23 (M2 18 v1.toNat) M2 hf)
theorem dX9_way_0 : decode cX9_way 0 = .ok (.aload_n 0, 1) := by decide +kernel
theorem dX9_way_1 : decode cX9_way 1 = .ok (.iload_n 1, 1) := by decide +kernel
theorem dX9_way_2 : decode cX9_way 2 = .ok (.invokevirtual 155, 3) := by decide +kernel
theorem dX9_way_5 : decode cX9_way 5 = .ok (.ifCond .eq 10, 3) := by decide +kernel
theorem dX9_way_8 : decode cX9_way 8 = .ok (.iload_n 2, 1) := by decide +kernel
theorem dX9_way_9 : decode cX9_way 9 = .ok (.invokestatic 158, 3) := by decide +kernel
theorem dX9_way_12 : decode cX9_way 12 = .ok (.ifCond .ne 5, 3) := by decide +kernel
theorem dX9_way_15 : decode cX9_way 15 = .ok (.iconst (-1), 1) := by decide +kernel
theorem dX9_way_16 : decode cX9_way 16 = .ok (.ireturn, 1) := by decide +kernel
theorem dX9_way_17 : decode cX9_way 17 = .ok (.iload_n 3, 1) := by decide +kernel
theorem dX9_way_18 : decode cX9_way 18 = .ok (.ifCond .ge 6, 3) := by decide +kernel
theorem dX9_way_21 : decode cX9_way 21 = .ok (.bipush (-2), 2) := by decide +kernel
theorem dX9_way_23 : decode cX9_way 23 = .ok (.ireturn, 1) := by decide +kernel
theorem dX9_way_24 : decode cX9_way 24 = .ok (.aload_n 0, 1) := by decide +kernel
theorem dX9_way_25 : decode cX9_way 25 = .ok (.getfield 32, 3) := by decide +kernel
theorem dX9_way_28 : decode cX9_way 28 = .ok (.aload_n 0, 1) := by decide +kernel
theorem dX9_way_29 : decode cX9_way 29 = .ok (.getfield 12, 3) := by decide +kernel
theorem dX9_way_32 : decode cX9_way 32 = .ok (.iload_n 1, 1) := by decide +kernel
theorem dX9_way_33 : decode cX9_way 33 = .ok (.iload_n 2, 1) := by decide +kernel
theorem dX9_way_34 : decode cX9_way 34 = .ok (.bipush 16, 2) := by decide +kernel
theorem dX9_way_36 : decode cX9_way 36 = .ok (.idiv, 1) := by decide +kernel
theorem dX9_way_37 : decode cX9_way 37 = .ok (.invokevirtual 273, 3) := by decide +kernel
theorem dX9_way_40 : decode cX9_way 40 = .ok (.iload_n 3, 1) := by decide +kernel
theorem dX9_way_41 : decode cX9_way 41 = .ok (.aload_n 0, 1) := by decide +kernel
theorem dX9_way_42 : decode cX9_way 42 = .ok (.getfield 32, 3) := by decide +kernel
theorem dX9_way_45 : decode cX9_way 45 = .ok (.getfield 291, 3) := by decide +kernel
theorem dX9_way_48 : decode cX9_way 48 = .ok (.if_icmp .ge 15, 3) := by decide +kernel
theorem dX9_way_51 : decode cX9_way 51 = .ok (.aload_n 0, 1) := by decide +kernel
theorem dX9_way_52 : decode cX9_way 52 = .ok (.getfield 32, 3) := by decide +kernel
theorem dX9_way_55 : decode cX9_way 55 = .ok (.getfield 292, 3) := by decide +kernel
theorem dX9_way_58 : decode cX9_way 58 = .ok (.iload_n 3, 1) := by decide +kernel
theorem dX9_way_59 : decode cX9_way 59 = .ok (.iaload, 1) := by decide +kernel
theorem dX9_way_60 : decode cX9_way 60 = .ok (.goto 5, 3) := by decide +kernel
theorem dX9_way_63 : decode cX9_way 63 = .ok (.bipush (-5), 2) := by decide +kernel
theorem dX9_way_65 : decode cX9_way 65 = .ok (.ireturn, 1) := by decide +kernel
set_option maxRecDepth 100000 in
set_option maxHeartbeats 4000000 in
theorem c_X9_way (l : Launch) (D : va_G) (cas : Nat → ClassId) (ad : Nat → Nat) (hi : zInj ad) {v1 : Int} {v2 : Int} {v3 : Int}  {r : Int} {M M' : Mem} (hf : f_X9_way v1 v2 v3 M = some (r, M')) : zMi l D cas ad yX9_way cX9_way 4 (some .int) 5 120 [.ref (ad 0), .int (zI v1), .int (zI v2), .int (zI v3)] M r M' := by
  refine zbody (by decide) (Nat.le_of_ble_eq_true rfl) hi ?_
  intro p e s m args below meth c X hr hk0
  have X : zX p s m args c cX9_way "ShardTrails" 4 D cas ad (zA ad) := X
  have hB15 : ∀ (M : Mem), f_X9_way_b15 M = some (r, M') → WW p l e (zrm 5 120) s m args below meth c D cas ad (zA ad) 4 0 0 (MQ below (zQi D cas ad r M') args s 0 0 (zA ad)) 15 [] [] M := by
    intro M hf
    unfold f_X9_way_b15 at hf
    refine R_iconst X dX9_way_15 ?_
    exact R_iret X hr hk0 dX9_way_16 hf
  have hB65 : ∀ (t1 : Int) (M : Mem), f_X9_way_b65 t1 M = some (r, M') → WW p l e (zrm 5 120) s m args below meth c D cas ad (zA ad) 4 0 0 (MQ below (zQi D cas ad r M') args s 0 0 (zA ad)) 65 [] [.int (zI t1)] M := by
    intro t1 M hf
    unfold f_X9_way_b65 at hf
    exact R_iret X hr hk0 dX9_way_65 hf
  unfold f_X9_way at hf
  refine (?_ : WW p l e (zrm 5 120) s m args below meth c D cas ad (zA ad) 4 0 0 (MQ below (zQi D cas ad r M') args s 0 0 (zA ad)) 0 [(0, .ref (ad 0)), (1, .int (zI v1)), (2, .int (zI v2)), (3, .int (zI v3))] [] M)
  refine R_aload_n X 0 dX9_way_0 rfl rfl ?_
  refine R_iload_n X 1 dX9_way_1 rfl rfl ?_
  obtain ⟨r1, M2, hc3, hf⟩ := zbnd_some hf
  refine R_callVi X (av := [.int (zI v1)]) (rest := []) (c_X9_isReader l D cas ad hi hc3) zy_X9_isReader lc_0 rfl rfl wm_X9_155 rfl rfl ⟨Nat.le_of_ble_eq_true rfl, Nat.le_of_ble_eq_true rfl⟩ ⟨Nat.le_refl _, Nat.le_refl _⟩ (Nat.le_of_ble_eq_true rfl) dX9_way_2 ?_
  obtain ⟨hq4, hf⟩ := zgrd hf
  refine R_if_eq X 15 hq4 dX9_way_5 (by decide) (fun c19 => ?_) (fun c19 => ?_)
  · have hf := zthen hf c19
    exact R_sub [] rfl (hB15 M2 hf)
  · have hf := zelse hf c19
    refine R_iload_n X 2 dX9_way_8 rfl rfl ?_
    obtain ⟨r5, M6, hc7, hf⟩ := zbnd_some hf
    refine R_callSi X (av := [.int (zI v2)]) (rest := []) (c_X9_isKey l D cas ad hi hc7) zy_X9_isKey wm_X9_158 rfl rfl ⟨Nat.le_of_ble_eq_true rfl, Nat.le_of_ble_eq_true rfl⟩ ⟨Nat.le_refl _, Nat.le_refl _⟩ (Nat.le_of_ble_eq_true rfl) dX9_way_9 ?_
    obtain ⟨hq8, hf⟩ := zgrd hf
    refine R_if_ne X 17 hq8 dX9_way_12 (by decide) (fun c18 => ?_) (fun c18 => ?_)
    · have hf := zelse hf c18
      refine R_iload_n X 3 dX9_way_17 rfl rfl ?_
      obtain ⟨hq9, hf⟩ := zgrd hf
      refine R_if_ge X 24 hq9 dX9_way_18 (by decide) (fun c17 => ?_) (fun c17 => ?_)
      · have hf := zthen hf c17
        refine R_aload_n X 0 dX9_way_24 rfl rfl ?_
        refine R_getR X (j := 4) 206 206 lc_0 rfl inX9 (by decide) rfl rfl (by decide) rfl rfl wf_X9_32 dX9_way_25 ?_
        refine R_aload_n X 0 dX9_way_28 rfl rfl ?_
        refine R_getR X (j := 0) 1 1 lc_0 rfl inX9 (by decide) rfl rfl (by decide) rfl rfl wf_X9_12 dX9_way_29 ?_
        refine R_iload_n X 1 dX9_way_32 rfl rfl ?_
        refine R_iload_n X 2 dX9_way_33 rfl rfl ?_
        refine R_bipush X dX9_way_34 (by decide +kernel) ?_
        obtain ⟨hq10, hf⟩ := zgrd hf
        refine R_idiv X ⟨⟨hq10, (by decide)⟩, (by decide)⟩ dX9_way_36 ?_
        obtain ⟨r11, M12, hc13, hf⟩ := zbnd_some hf
        refine R_callVv X (av := [.ref (ad 1), .int (zI v1), .int (zI (v2.tdiv 16))]) (rest := []) (c_X6_find l D cas ad hi lc_1 hc13) zy_X6_find lc_206 rfl rfl wm_X9_273 rfl rfl ⟨Nat.le_of_ble_eq_true rfl, Nat.le_of_ble_eq_true rfl⟩ ⟨Nat.le_refl _, Nat.le_refl _⟩ (Nat.le_of_ble_eq_true rfl) dX9_way_37 ?_
        refine R_iload_n X 3 dX9_way_40 rfl rfl ?_
        refine R_aload_n X 0 dX9_way_41 rfl rfl ?_
        refine R_getR X (j := 4) 206 206 lc_0 rfl inX9 (by decide) rfl rfl (by decide) rfl rfl wf_X9_32 dX9_way_42 ?_
        refine R_getI X (j := 5) lc_206 rfl inX6 (by decide) rfl rfl rfl wf_X9_291 dX9_way_45 ?_
        obtain ⟨hq14, hf⟩ := zgrd hf
        refine R_icmp_ge X 63 ⟨hq9, hq14⟩ dX9_way_48 (by decide) (fun c16 => ?_) (fun c16 => ?_)
        · have hf := zthen hf c16
          refine R_bipush X dX9_way_63 (by decide +kernel) ?_
          exact R_sub [] rfl (hB65 (-5) M12 hf)
        · have hf := zelse hf c16
          refine R_aload_n X 0 dX9_way_51 rfl rfl ?_
          refine R_getR X (j := 4) 206 206 lc_0 rfl inX9 (by decide) rfl rfl (by decide) rfl rfl wf_X9_32 dX9_way_52 ?_
          refine R_getR X (j := 6) 1 207 lc_206 rfl inX6 (by decide) rfl rfl (by decide) rfl rfl wf_X9_292 dX9_way_55 ?_
          refine R_iload_n X 3 dX9_way_58 rfl rfl ?_
          obtain ⟨hq15, hf⟩ := zgrd hf
          refine R_iald X lc_207 hq15 dX9_way_59 ?_
          refine R_goto X 65 dX9_way_60 (by decide) ?_
          exact R_sub [] rfl (hB65 (M12 207 v3.toNat) M12 hf)
      · have hf := zelse hf c17
        refine R_bipush X dX9_way_21 (by decide +kernel) ?_
        exact R_iret X hr hk0 dX9_way_23 hf
    · have hf := zthen hf c18
      exact R_sub [] rfl (hB15 M6 hf)
theorem dX9_write_0 : decode cX9_write 0 = .ok (.aload_n 0, 1) := by decide +kernel
theorem dX9_write_1 : decode cX9_write 1 = .ok (.iload_n 1, 1) := by decide +kernel
theorem dX9_write_2 : decode cX9_write 2 = .ok (.invokevirtual 155, 3) := by decide +kernel
theorem dX9_write_5 : decode cX9_write 5 = .ok (.ifCond .eq 10, 3) := by decide +kernel
theorem dX9_write_8 : decode cX9_write 8 = .ok (.iload_n 2, 1) := by decide +kernel
theorem dX9_write_9 : decode cX9_write 9 = .ok (.invokestatic 158, 3) := by decide +kernel
theorem dX9_write_12 : decode cX9_write 12 = .ok (.ifCond .ne 5, 3) := by decide +kernel
theorem dX9_write_15 : decode cX9_write 15 = .ok (.iconst (-1), 1) := by decide +kernel
theorem dX9_write_16 : decode cX9_write 16 = .ok (.ireturn, 1) := by decide +kernel
theorem dX9_write_17 : decode cX9_write 17 = .ok (.iload_n 3, 1) := by decide +kernel
theorem dX9_write_18 : decode cX9_write 18 = .ok (.iconst 0, 1) := by decide +kernel
theorem dX9_write_19 : decode cX9_write 19 = .ok (.sipush 9999, 3) := by decide +kernel
theorem dX9_write_22 : decode cX9_write 22 = .ok (.invokestatic 43, 3) := by decide +kernel
theorem dX9_write_25 : decode cX9_write 25 = .ok (.ifCond .ne 6, 3) := by decide +kernel
theorem dX9_write_28 : decode cX9_write 28 = .ok (.bipush (-2), 2) := by decide +kernel
theorem dX9_write_30 : decode cX9_write 30 = .ok (.ireturn, 1) := by decide +kernel
theorem dX9_write_31 : decode cX9_write 31 = .ok (.aload_n 0, 1) := by decide +kernel
theorem dX9_write_32 : decode cX9_write 32 = .ok (.getfield 25, 3) := by decide +kernel
theorem dX9_write_35 : decode cX9_write 35 = .ok (.aload_n 0, 1) := by decide +kernel
theorem dX9_write_36 : decode cX9_write 36 = .ok (.getfield 12, 3) := by decide +kernel
theorem dX9_write_39 : decode cX9_write 39 = .ok (.invokevirtual 57, 3) := by decide +kernel
theorem dX9_write_42 : decode cX9_write 42 = .ok (.aload_n 0, 1) := by decide +kernel
theorem dX9_write_43 : decode cX9_write 43 = .ok (.iload_n 1, 1) := by decide +kernel
theorem dX9_write_44 : decode cX9_write 44 = .ok (.iload_n 2, 1) := by decide +kernel
theorem dX9_write_45 : decode cX9_write 45 = .ok (.iload_n 3, 1) := by decide +kernel
theorem dX9_write_46 : decode cX9_write 46 = .ok (.invokevirtual 161, 3) := by decide +kernel
theorem dX9_write_49 : decode cX9_write 49 = .ok (.ireturn, 1) := by decide +kernel
set_option maxRecDepth 100000 in
set_option maxHeartbeats 4000000 in
theorem c_X9_write (l : Launch) (D : va_G) (cas : Nat → ClassId) (ad : Nat → Nat) (hi : zInj ad) {v1 : Int} {v2 : Int} {v3 : Int}  {r : Int} {M M' : Mem} (hf : f_X9_write v1 v2 v3 M = some (r, M')) : zMi l D cas ad yX9_write cX9_write 4 (some .int) 6 144 [.ref (ad 0), .int (zI v1), .int (zI v2), .int (zI v3)] M r M' := by
  refine zbody (by decide) (Nat.le_of_ble_eq_true rfl) hi ?_
  intro p e s m args below meth c X hr hk0
  have X : zX p s m args c cX9_write "ShardTrails" 4 D cas ad (zA ad) := X
  have hB15 : ∀ (M : Mem), f_X9_write_b15 M = some (r, M') → WW p l e (zrm 6 144) s m args below meth c D cas ad (zA ad) 4 0 0 (MQ below (zQi D cas ad r M') args s 0 0 (zA ad)) 15 [] [] M := by
    intro M hf
    unfold f_X9_write_b15 at hf
    refine R_iconst X dX9_write_15 ?_
    exact R_iret X hr hk0 dX9_write_16 hf
  unfold f_X9_write at hf
  refine (?_ : WW p l e (zrm 6 144) s m args below meth c D cas ad (zA ad) 4 0 0 (MQ below (zQi D cas ad r M') args s 0 0 (zA ad)) 0 [(0, .ref (ad 0)), (1, .int (zI v1)), (2, .int (zI v2)), (3, .int (zI v3))] [] M)
  refine R_aload_n X 0 dX9_write_0 rfl rfl ?_
  refine R_iload_n X 1 dX9_write_1 rfl rfl ?_
  obtain ⟨r1, M2, hc3, hf⟩ := zbnd_some hf
  refine R_callVi X (av := [.int (zI v1)]) (rest := []) (c_X9_isReader l D cas ad hi hc3) zy_X9_isReader lc_0 rfl rfl wm_X9_155 rfl rfl ⟨Nat.le_of_ble_eq_true rfl, Nat.le_of_ble_eq_true rfl⟩ ⟨Nat.le_refl _, Nat.le_refl _⟩ (Nat.le_of_ble_eq_true rfl) dX9_write_2 ?_
  obtain ⟨hq4, hf⟩ := zgrd hf
  refine R_if_eq X 15 hq4 dX9_write_5 (by decide) (fun c21 => ?_) (fun c21 => ?_)
  · have hf := zthen hf c21
    exact R_sub [] rfl (hB15 M2 hf)
  · have hf := zelse hf c21
    refine R_iload_n X 2 dX9_write_8 rfl rfl ?_
    obtain ⟨r5, M6, hc7, hf⟩ := zbnd_some hf
    refine R_callSi X (av := [.int (zI v2)]) (rest := []) (c_X9_isKey l D cas ad hi hc7) zy_X9_isKey wm_X9_158 rfl rfl ⟨Nat.le_of_ble_eq_true rfl, Nat.le_of_ble_eq_true rfl⟩ ⟨Nat.le_refl _, Nat.le_refl _⟩ (Nat.le_of_ble_eq_true rfl) dX9_write_9 ?_
    obtain ⟨hq8, hf⟩ := zgrd hf
    refine R_if_ne X 17 hq8 dX9_write_12 (by decide) (fun c20 => ?_) (fun c20 => ?_)
    · have hf := zelse hf c20
      refine R_iload_n X 3 dX9_write_17 rfl rfl ?_
      refine R_iconst X dX9_write_18 ?_
      refine R_sipush X dX9_write_19 (by decide +kernel) ?_
      obtain ⟨r9, M10, hc11, hf⟩ := zbnd_some hf
      refine R_callSi X (av := [.int (zI v3), .int (zI 0), .int (zI 9999)]) (rest := []) (c_X9_isWithin l D cas ad hi hc11) zy_X9_isWithin wm_X9_43 rfl rfl ⟨Nat.le_of_ble_eq_true rfl, Nat.le_of_ble_eq_true rfl⟩ ⟨Nat.le_refl _, Nat.le_refl _⟩ (Nat.le_of_ble_eq_true rfl) dX9_write_22 ?_
      obtain ⟨hq12, hf⟩ := zgrd hf
      refine R_if_ne X 31 hq12 dX9_write_25 (by decide) (fun c19 => ?_) (fun c19 => ?_)
      · have hf := zelse hf c19
        refine R_aload_n X 0 dX9_write_31 rfl rfl ?_
        refine R_getR X (j := 3) 88 88 lc_0 rfl inX9 (by decide) rfl rfl (by decide) rfl rfl wf_X9_25 dX9_write_32 ?_
        refine R_aload_n X 0 dX9_write_35 rfl rfl ?_
        refine R_getR X (j := 0) 1 1 lc_0 rfl inX9 (by decide) rfl rfl (by decide) rfl rfl wf_X9_12 dX9_write_36 ?_
        obtain ⟨r13, M14, hc15, hf⟩ := zbnd_some hf
        refine R_callVv X (av := [.ref (ad 1)]) (rest := []) (c_X1_store l D cas ad hi lc_1 hc15) zy_X1_store lc_88 rfl rfl wm_X9_57 rfl rfl ⟨Nat.le_of_ble_eq_true rfl, Nat.le_of_ble_eq_true rfl⟩ ⟨Nat.le_refl _, Nat.le_refl _⟩ (Nat.le_of_ble_eq_true rfl) dX9_write_39 ?_
        refine R_aload_n X 0 dX9_write_42 rfl rfl ?_
        refine R_iload_n X 1 dX9_write_43 rfl rfl ?_
        refine R_iload_n X 2 dX9_write_44 rfl rfl ?_
        refine R_iload_n X 3 dX9_write_45 rfl rfl ?_
        obtain ⟨r16, M17, hc18, hf⟩ := zbnd_some hf
        refine R_callVi X (av := [.int (zI v1), .int (zI v2), .int (zI v3)]) (rest := []) (c_X9_serve l D cas ad hi hc18) zy_X9_serve lc_0 rfl rfl wm_X9_161 rfl rfl ⟨Nat.le_of_ble_eq_true rfl, Nat.le_of_ble_eq_true rfl⟩ ⟨Nat.le_refl _, Nat.le_refl _⟩ (Nat.le_of_ble_eq_true rfl) dX9_write_46 ?_
        exact R_iret X hr hk0 dX9_write_49 hf
      · have hf := zthen hf c19
        refine R_bipush X dX9_write_28 (by decide +kernel) ?_
        exact R_iret X hr hk0 dX9_write_30 hf
    · have hf := zthen hf c20
      exact R_sub [] rfl (hB15 M6 hf)
theorem dX10_in_0 : decode cX10_in 0 = .ok (.iload_n 0, 1) := by decide +kernel
theorem dX10_in_1 : decode cX10_in 1 = .ok (.iload_n 1, 1) := by decide +kernel
theorem dX10_in_2 : decode cX10_in 2 = .ok (.if_icmp .lt 12, 3) := by decide +kernel
theorem dX10_in_5 : decode cX10_in 5 = .ok (.iload_n 0, 1) := by decide +kernel
theorem dX10_in_6 : decode cX10_in 6 = .ok (.iload_n 2, 1) := by decide +kernel
theorem dX10_in_7 : decode cX10_in 7 = .ok (.if_icmp .gt 7, 3) := by decide +kernel
theorem dX10_in_10 : decode cX10_in 10 = .ok (.iconst 1, 1) := by decide +kernel
theorem dX10_in_11 : decode cX10_in 11 = .ok (.goto 4, 3) := by decide +kernel
theorem dX10_in_14 : decode cX10_in 14 = .ok (.iconst 0, 1) := by decide +kernel
theorem dX10_in_15 : decode cX10_in 15 = .ok (.ireturn, 1) := by decide +kernel
set_option maxRecDepth 100000 in
set_option maxHeartbeats 4000000 in
theorem c_X10_in (l : Launch) (D : va_G) (cas : Nat → ClassId) (ad : Nat → Nat) (hi : zInj ad) {v0 : Int} {v1 : Int} {v2 : Int}  {r : Int} {M M' : Mem} (hf : f_X10_in v0 v1 v2 M = some (r, M')) : zMi l D cas ad yX10_in cX10_in 3 (some .boolean) 0 0 [.int (zI v0), .int (zI v1), .int (zI v2)] M r M' := by
  refine zbody (by decide) (Nat.le_of_ble_eq_true rfl) hi ?_
  intro p e s m args below meth c X hr hk0
  have X : zX p s m args c cX10_in "ShardTrailsModel" 3 D cas ad (zA ad) := X
  have hB15 : ∀ (t1 : Int) (M : Mem), f_X10_in_b15 t1 M = some (r, M') → WW p l e (zrm 0 0) s m args below meth c D cas ad (zA ad) 3 0 0 (MQ below (zQi D cas ad r M') args s 0 0 (zA ad)) 15 [] [.int (zI t1)] M := by
    intro t1 M hf
    unfold f_X10_in_b15 at hf
    obtain ⟨hq6, hf⟩ := zgrd hf
    exact R_zret X hq6 hr hk0 dX10_in_15 hf
  have hB14 : ∀ (M : Mem), f_X10_in_b14 M = some (r, M') → WW p l e (zrm 0 0) s m args below meth c D cas ad (zA ad) 3 0 0 (MQ below (zQi D cas ad r M') args s 0 0 (zA ad)) 14 [] [] M := by
    intro M hf
    unfold f_X10_in_b14 at hf
    refine R_iconst X dX10_in_14 ?_
    exact R_sub [] rfl (hB15 0 M hf)
  unfold f_X10_in at hf
  refine (?_ : WW p l e (zrm 0 0) s m args below meth c D cas ad (zA ad) 3 0 0 (MQ below (zQi D cas ad r M') args s 0 0 (zA ad)) 0 [(0, .int (zI v0)), (1, .int (zI v1)), (2, .int (zI v2))] [] M)
  refine R_iload_n X 0 dX10_in_0 rfl rfl ?_
  refine R_iload_n X 1 dX10_in_1 rfl rfl ?_
  obtain ⟨hq1, hf⟩ := zgrd hf
  obtain ⟨hq2, hf⟩ := zgrd hf
  refine R_icmp_lt X 14 ⟨hq1, hq2⟩ dX10_in_2 (by decide) (fun c5 => ?_) (fun c5 => ?_)
  · have hf := zthen hf c5
    exact R_sub [] rfl (hB14 M hf)
  · have hf := zelse hf c5
    refine R_iload_n X 0 dX10_in_5 rfl rfl ?_
    refine R_iload_n X 2 dX10_in_6 rfl rfl ?_
    obtain ⟨hq3, hf⟩ := zgrd hf
    refine R_icmp_gt X 14 ⟨hq1, hq3⟩ dX10_in_7 (by decide) (fun c4 => ?_) (fun c4 => ?_)
    · have hf := zthen hf c4
      exact R_sub [] rfl (hB14 M hf)
    · have hf := zelse hf c4
      refine R_iconst X dX10_in_10 ?_
      refine R_goto X 15 dX10_in_11 (by decide) ?_
      exact R_sub [] rfl (hB15 1 M hf)
theorem dX10_copy_0 : decode cX10_copy 0 = .ok (.iconst 0, 1) := by decide +kernel
theorem dX10_copy_1 : decode cX10_copy 1 = .ok (.istore_n 3, 1) := by decide +kernel
theorem dX10_copy_2 : decode cX10_copy 2 = .ok (.iload_n 3, 1) := by decide +kernel
theorem dX10_copy_3 : decode cX10_copy 3 = .ok (.sipush 871, 3) := by decide +kernel
theorem dX10_copy_6 : decode cX10_copy 6 = .ok (.if_icmp .ge 25, 3) := by decide +kernel
theorem dX10_copy_9 : decode cX10_copy 9 = .ok (.aload_n 0, 1) := by decide +kernel
theorem dX10_copy_10 : decode cX10_copy 10 = .ok (.getfield 7, 3) := by decide +kernel
theorem dX10_copy_13 : decode cX10_copy 13 = .ok (.iload_n 2, 1) := by decide +kernel
theorem dX10_copy_14 : decode cX10_copy 14 = .ok (.iload_n 3, 1) := by decide +kernel
theorem dX10_copy_15 : decode cX10_copy 15 = .ok (.iadd, 1) := by decide +kernel
theorem dX10_copy_16 : decode cX10_copy 16 = .ok (.aload_n 0, 1) := by decide +kernel
theorem dX10_copy_17 : decode cX10_copy 17 = .ok (.getfield 7, 3) := by decide +kernel
theorem dX10_copy_20 : decode cX10_copy 20 = .ok (.iload_n 1, 1) := by decide +kernel
theorem dX10_copy_21 : decode cX10_copy 21 = .ok (.iload_n 3, 1) := by decide +kernel
theorem dX10_copy_22 : decode cX10_copy 22 = .ok (.iadd, 1) := by decide +kernel
theorem dX10_copy_23 : decode cX10_copy 23 = .ok (.iaload, 1) := by decide +kernel
theorem dX10_copy_24 : decode cX10_copy 24 = .ok (.iastore, 1) := by decide +kernel
theorem dX10_copy_25 : decode cX10_copy 25 = .ok (.iinc 3 1, 3) := by decide +kernel
theorem dX10_copy_28 : decode cX10_copy 28 = .ok (.goto (-26), 3) := by decide +kernel
theorem dX10_copy_31 : decode cX10_copy 31 = .ok (.return_, 1) := by decide +kernel
set_option maxRecDepth 100000 in
set_option maxHeartbeats 4000000 in
theorem c_X10_copy (l : Launch) (D : va_G) (cas : Nat → ClassId) (ad : Nat → Nat) (hi : zInj ad) {v1 : Int} {v2 : Int}  {r : Int} {M M' : Mem} (hf : f_X10_copy v1 v2 M = some (r, M')) : zMv l D cas ad yX10_copy cX10_copy 4 0 0 [.ref (ad 215), .int (zI v1), .int (zI v2)] M M' := by
  refine zbody (by decide) (Nat.le_of_ble_eq_true rfl) hi ?_
  intro p e s m args below meth c X hr hk0
  have X : zX p s m args c cX10_copy "ShardTrailsModel" 4 D cas ad (zA ad) := X
  have hB2 : ∀ (n : Nat) (v1 v2 v3 : Int) (M : Mem), f_X10_copy_b2 n v1 v2 v3 M = some (r, M') → WW p l e (zrm 0 0) s m args below meth c D cas ad (zA ad) 4 0 0 (MQ below (zQv D cas ad M') args s 0 0 (zA ad)) 2 [(0, .ref (ad 215)), (1, .int (zI v1)), (2, .int (zI v2)), (3, .int (zI v3))] [] M := by
    intro n
    induction n with
    | zero => intro v1 v2 v3 M hf; exact absurd hf (by unfold f_X10_copy_b2; simp)
    | succ n ih =>
      intro v1 v2 v3 M hf
      unfold f_X10_copy_b2 at hf
      refine R_iload_n X 3 dX10_copy_2 rfl rfl ?_
      refine R_sipush X dX10_copy_3 (by decide +kernel) ?_
      obtain ⟨hq1, hf⟩ := zgrd hf
      refine R_icmp_ge X 31 ⟨hq1, (by decide)⟩ dX10_copy_6 (by decide) (fun c5 => ?_) (fun c5 => ?_)
      · have hf := zthen hf c5
        exact R_vret X hr hk0 dX10_copy_31 hf
      · have hf := zelse hf c5
        refine R_aload_n X 0 dX10_copy_9 rfl rfl ?_
        refine R_getR X (j := 0) 1 216 lc_215 rfl inX10 (by decide) rfl rfl (by decide) rfl rfl wf_X10_7 dX10_copy_10 ?_
        refine R_iload_n X 2 dX10_copy_13 rfl rfl ?_
        refine R_iload_n X 3 dX10_copy_14 rfl rfl ?_
        refine R_iadd X dX10_copy_15 ?_
        refine R_aload_n X 0 dX10_copy_16 rfl rfl ?_
        refine R_getR X (j := 0) 1 216 lc_215 rfl inX10 (by decide) rfl rfl (by decide) rfl rfl wf_X10_7 dX10_copy_17 ?_
        refine R_iload_n X 1 dX10_copy_20 rfl rfl ?_
        refine R_iload_n X 3 dX10_copy_21 rfl rfl ?_
        refine R_iadd X dX10_copy_22 ?_
        obtain ⟨hq2, hf⟩ := zgrd hf
        refine R_iald X lc_216 hq2 dX10_copy_23 ?_
        obtain ⟨hq3, hf⟩ := zgrd hf
        obtain ⟨M4, eM4, hf⟩ := zlt_some hf
        refine R_iast X lc_216 hq3 dX10_copy_24 ?_
        refine R_mem eM4 ?_
        refine R_iinc X (lv' := [(3, .int (zI (v3 + 1))), (0, .ref (ad 215)), (1, .int (zI v1)), (2, .int (zI v2))]) 3 dX10_copy_25 rfl (by decide) rfl ?_
        refine R_goto X 2 dX10_copy_28 (by decide) ?_
        exact R_sub [1, 2, 3, 0] rfl (ih v1 v2 (v3 + 1) M4 hf)
  unfold f_X10_copy at hf
  refine (?_ : WW p l e (zrm 0 0) s m args below meth c D cas ad (zA ad) 4 0 0 (MQ below (zQv D cas ad M') args s 0 0 (zA ad)) 0 [(0, .ref (ad 215)), (1, .int (zI v1)), (2, .int (zI v2))] [] M)
  refine R_iconst X dX10_copy_0 ?_
  refine R_istore_n X (lv' := [(3, .int (zI 0)), (0, .ref (ad 215)), (1, .int (zI v1)), (2, .int (zI v2))]) dX10_copy_1 rfl (by decide) rfl ?_
  exact R_sub [1, 2, 3, 0] rfl (hB2 100000 v1 v2 0 M hf)
theorem dX10_record_0 : decode cX10_record 0 = .ok (.aload_n 0, 1) := by decide +kernel
theorem dX10_record_1 : decode cX10_record 1 = .ok (.getfield 19, 3) := by decide +kernel
theorem dX10_record_4 : decode cX10_record 4 = .ok (.iconst 4, 1) := by decide +kernel
theorem dX10_record_5 : decode cX10_record 5 = .ok (.if_icmp .ne 44, 3) := by decide +kernel
theorem dX10_record_8 : decode cX10_record 8 = .ok (.iconst 1, 1) := by decide +kernel
theorem dX10_record_9 : decode cX10_record 9 = .ok (.istore_n 1, 1) := by decide +kernel
theorem dX10_record_10 : decode cX10_record 10 = .ok (.iload_n 1, 1) := by decide +kernel
theorem dX10_record_11 : decode cX10_record 11 = .ok (.iconst 4, 1) := by decide +kernel
theorem dX10_record_12 : decode cX10_record 12 = .ok (.if_icmp .ge 27, 3) := by decide +kernel
theorem dX10_record_15 : decode cX10_record 15 = .ok (.aload_n 0, 1) := by decide +kernel
theorem dX10_record_16 : decode cX10_record 16 = .ok (.sipush 871, 3) := by decide +kernel
theorem dX10_record_19 : decode cX10_record 19 = .ok (.sipush 871, 3) := by decide +kernel
theorem dX10_record_22 : decode cX10_record 22 = .ok (.iload_n 1, 1) := by decide +kernel
theorem dX10_record_23 : decode cX10_record 23 = .ok (.imul, 1) := by decide +kernel
theorem dX10_record_24 : decode cX10_record 24 = .ok (.iadd, 1) := by decide +kernel
theorem dX10_record_25 : decode cX10_record 25 = .ok (.sipush 871, 3) := by decide +kernel
theorem dX10_record_28 : decode cX10_record 28 = .ok (.iload_n 1, 1) := by decide +kernel
theorem dX10_record_29 : decode cX10_record 29 = .ok (.imul, 1) := by decide +kernel
theorem dX10_record_30 : decode cX10_record 30 = .ok (.invokevirtual 23, 3) := by decide +kernel
theorem dX10_record_33 : decode cX10_record 33 = .ok (.iinc 1 1, 3) := by decide +kernel
theorem dX10_record_36 : decode cX10_record 36 = .ok (.goto (-26), 3) := by decide +kernel
theorem dX10_record_39 : decode cX10_record 39 = .ok (.aload_n 0, 1) := by decide +kernel
theorem dX10_record_40 : decode cX10_record 40 = .ok (.dup, 1) := by decide +kernel
theorem dX10_record_41 : decode cX10_record 41 = .ok (.getfield 19, 3) := by decide +kernel
theorem dX10_record_44 : decode cX10_record 44 = .ok (.iconst 1, 1) := by decide +kernel
theorem dX10_record_45 : decode cX10_record 45 = .ok (.isub, 1) := by decide +kernel
theorem dX10_record_46 : decode cX10_record 46 = .ok (.putfield 19, 3) := by decide +kernel
theorem dX10_record_49 : decode cX10_record 49 = .ok (.aload_n 0, 1) := by decide +kernel
theorem dX10_record_50 : decode cX10_record 50 = .ok (.iconst 0, 1) := by decide +kernel
theorem dX10_record_51 : decode cX10_record 51 = .ok (.sipush 871, 3) := by decide +kernel
theorem dX10_record_54 : decode cX10_record 54 = .ok (.sipush 871, 3) := by decide +kernel
theorem dX10_record_57 : decode cX10_record 57 = .ok (.aload_n 0, 1) := by decide +kernel
theorem dX10_record_58 : decode cX10_record 58 = .ok (.getfield 19, 3) := by decide +kernel
theorem dX10_record_61 : decode cX10_record 61 = .ok (.imul, 1) := by decide +kernel
theorem dX10_record_62 : decode cX10_record 62 = .ok (.iadd, 1) := by decide +kernel
theorem dX10_record_63 : decode cX10_record 63 = .ok (.invokevirtual 23, 3) := by decide +kernel
theorem dX10_record_66 : decode cX10_record 66 = .ok (.aload_n 0, 1) := by decide +kernel
theorem dX10_record_67 : decode cX10_record 67 = .ok (.dup, 1) := by decide +kernel
theorem dX10_record_68 : decode cX10_record 68 = .ok (.getfield 19, 3) := by decide +kernel
theorem dX10_record_71 : decode cX10_record 71 = .ok (.iconst 1, 1) := by decide +kernel
theorem dX10_record_72 : decode cX10_record 72 = .ok (.iadd, 1) := by decide +kernel
theorem dX10_record_73 : decode cX10_record 73 = .ok (.putfield 19, 3) := by decide +kernel
theorem dX10_record_76 : decode cX10_record 76 = .ok (.return_, 1) := by decide +kernel
set_option maxRecDepth 100000 in
set_option maxHeartbeats 4000000 in
theorem c_X10_record (l : Launch) (D : va_G) (cas : Nat → ClassId) (ad : Nat → Nat) (hi : zInj ad)   {r : Int} {M M' : Mem} (hf : f_X10_record M = some (r, M')) : zMv l D cas ad yX10_record cX10_record 2 1 23 [.ref (ad 215)] M M' := by
  refine zbody (by decide) (Nat.le_of_ble_eq_true rfl) hi ?_
  intro p e s m args below meth c X hr hk0
  have X : zX p s m args c cX10_record "ShardTrailsModel" 2 D cas ad (zA ad) := X
  have hB49 : ∀ (M : Mem), f_X10_record_b49 M = some (r, M') → WW p l e (zrm 1 23) s m args below meth c D cas ad (zA ad) 2 0 0 (MQ below (zQv D cas ad M') args s 0 0 (zA ad)) 49 [(0, .ref (ad 215))] [] M := by
    intro M hf
    unfold f_X10_record_b49 at hf
    refine R_aload_n X 0 dX10_record_49 rfl rfl ?_
    refine R_iconst X dX10_record_50 ?_
    refine R_sipush X dX10_record_51 (by decide +kernel) ?_
    refine R_sipush X dX10_record_54 (by decide +kernel) ?_
    refine R_aload_n X 0 dX10_record_57 rfl rfl ?_
    refine R_getI X (j := 1) lc_215 rfl inX10 (by decide) rfl rfl rfl wf_X10_19 dX10_record_58 ?_
    refine R_imul X dX10_record_61 ?_
    refine R_iadd X dX10_record_62 ?_
    obtain ⟨r3, M4, hc5, hf⟩ := zbnd_some hf
    refine R_callVv X (av := [.int (zI 0), .int (zI (871 + (871 * (M 215 1))))]) (rest := []) (c_X10_copy l D cas ad hi hc5) zy_X10_copy lc_215 rfl rfl wm_X10_23 rfl rfl ⟨Nat.le_of_ble_eq_true rfl, Nat.le_of_ble_eq_true rfl⟩ ⟨Nat.le_refl _, Nat.le_refl _⟩ (Nat.le_of_ble_eq_true rfl) dX10_record_63 ?_
    refine R_aload_n X 0 dX10_record_66 rfl rfl ?_
    refine R_dup X dX10_record_67 rfl ?_
    refine R_getI X (j := 1) lc_215 rfl inX10 (by decide) rfl rfl rfl wf_X10_19 dX10_record_68 ?_
    refine R_iconst X dX10_record_71 ?_
    refine R_iadd X dX10_record_72 ?_
    obtain ⟨M6, eM6, hf⟩ := zlt_some hf
    refine R_put X (j := 1) lc_215 rfl inX10 tyX10_ok nmX10 (by decide) rfl rfl rfl wf_X10_19 rfl (by decide +kernel) (z_nI _) (z_fI _) dX10_record_73 ?_
    refine R_mem eM6 ?_
    exact R_vret X hr hk0 dX10_record_76 hf
  have hB10 : ∀ (n : Nat) (v1 : Int) (M : Mem), f_X10_record_b10 n v1 M = some (r, M') → WW p l e (zrm 1 23) s m args below meth c D cas ad (zA ad) 2 0 0 (MQ below (zQv D cas ad M') args s 0 0 (zA ad)) 10 [(0, .ref (ad 215)), (1, .int (zI v1))] [] M := by
    intro n
    induction n with
    | zero => intro v1 M hf; exact absurd hf (by unfold f_X10_record_b10; simp)
    | succ n ih =>
      intro v1 M hf
      unfold f_X10_record_b10 at hf
      refine R_iload_n X 1 dX10_record_10 rfl rfl ?_
      refine R_iconst X dX10_record_11 ?_
      obtain ⟨hq7, hf⟩ := zgrd hf
      refine R_icmp_ge X 39 ⟨hq7, (by decide)⟩ dX10_record_12 (by decide) (fun c12 => ?_) (fun c12 => ?_)
      · have hf := zthen hf c12
        refine R_aload_n X 0 dX10_record_39 rfl rfl ?_
        refine R_dup X dX10_record_40 rfl ?_
        refine R_getI X (j := 1) lc_215 rfl inX10 (by decide) rfl rfl rfl wf_X10_19 dX10_record_41 ?_
        refine R_iconst X dX10_record_44 ?_
        refine R_isub X dX10_record_45 ?_
        obtain ⟨M8, eM8, hf⟩ := zlt_some hf
        refine R_put X (j := 1) lc_215 rfl inX10 tyX10_ok nmX10 (by decide) rfl rfl rfl wf_X10_19 rfl (by decide +kernel) (z_nI _) (z_fI _) dX10_record_46 ?_
        refine R_mem eM8 ?_
        exact R_sub [0] rfl (hB49 M8 hf)
      · have hf := zelse hf c12
        refine R_aload_n X 0 dX10_record_15 rfl rfl ?_
        refine R_sipush X dX10_record_16 (by decide +kernel) ?_
        refine R_sipush X dX10_record_19 (by decide +kernel) ?_
        refine R_iload_n X 1 dX10_record_22 rfl rfl ?_
        refine R_imul X dX10_record_23 ?_
        refine R_iadd X dX10_record_24 ?_
        refine R_sipush X dX10_record_25 (by decide +kernel) ?_
        refine R_iload_n X 1 dX10_record_28 rfl rfl ?_
        refine R_imul X dX10_record_29 ?_
        obtain ⟨r9, M10, hc11, hf⟩ := zbnd_some hf
        refine R_callVv X (av := [.int (zI (871 + (871 * v1))), .int (zI (871 * v1))]) (rest := []) (c_X10_copy l D cas ad hi hc11) zy_X10_copy lc_215 rfl rfl wm_X10_23 rfl rfl ⟨Nat.le_of_ble_eq_true rfl, Nat.le_of_ble_eq_true rfl⟩ ⟨Nat.le_refl _, Nat.le_refl _⟩ (Nat.le_of_ble_eq_true rfl) dX10_record_30 ?_
        refine R_iinc X (lv' := [(1, .int (zI (v1 + 1))), (0, .ref (ad 215))]) 1 dX10_record_33 rfl (by decide) rfl ?_
        refine R_goto X 10 dX10_record_36 (by decide) ?_
        exact R_sub [1, 0] rfl (ih (v1 + 1) M10 hf)
  unfold f_X10_record at hf
  refine (?_ : WW p l e (zrm 1 23) s m args below meth c D cas ad (zA ad) 2 0 0 (MQ below (zQv D cas ad M') args s 0 0 (zA ad)) 0 [(0, .ref (ad 215))] [] M)
  refine R_aload_n X 0 dX10_record_0 rfl rfl ?_
  refine R_getI X (j := 1) lc_215 rfl inX10 (by decide) rfl rfl rfl wf_X10_19 dX10_record_1 ?_
  refine R_iconst X dX10_record_4 ?_
  obtain ⟨hq1, hf⟩ := zgrd hf
  refine R_icmp_ne X 49 ⟨hq1, (by decide)⟩ dX10_record_5 (by decide) (fun c2 => ?_) (fun c2 => ?_)
  · have hf := zelse hf c2
    exact R_sub [0] rfl (hB49 M hf)
  · have hf := zthen hf c2
    refine R_iconst X dX10_record_8 ?_
    refine R_istore_n X (lv' := [(1, .int (zI 1)), (0, .ref (ad 215))]) dX10_record_9 rfl (by decide) rfl ?_
    exact R_sub [1, 0] rfl (hB10 100000 1 M hf)
theorem dX10_addPasture_0 : decode cX10_addPasture 0 = .ok (.iload_n 1, 1) := by decide +kernel
theorem dX10_addPasture_1 : decode cX10_addPasture 1 = .ok (.iconst 0, 1) := by decide +kernel
theorem dX10_addPasture_2 : decode cX10_addPasture 2 = .ok (.bipush 90, 2) := by decide +kernel
theorem dX10_addPasture_4 : decode cX10_addPasture 4 = .ok (.invokestatic 34, 3) := by decide +kernel
theorem dX10_addPasture_7 : decode cX10_addPasture 7 = .ok (.ifCond .eq 13, 3) := by decide +kernel
theorem dX10_addPasture_10 : decode cX10_addPasture 10 = .ok (.iload_n 2, 1) := by decide +kernel
theorem dX10_addPasture_11 : decode cX10_addPasture 11 = .ok (.iconst 1, 1) := by decide +kernel
theorem dX10_addPasture_12 : decode cX10_addPasture 12 = .ok (.bipush 16, 2) := by decide +kernel
theorem dX10_addPasture_14 : decode cX10_addPasture 14 = .ok (.invokestatic 34, 3) := by decide +kernel
theorem dX10_addPasture_17 : decode cX10_addPasture 17 = .ok (.ifCond .ne 6, 3) := by decide +kernel
theorem dX10_addPasture_20 : decode cX10_addPasture 20 = .ok (.bipush (-2), 2) := by decide +kernel
theorem dX10_addPasture_22 : decode cX10_addPasture 22 = .ok (.ireturn, 1) := by decide +kernel
theorem dX10_addPasture_23 : decode cX10_addPasture 23 = .ok (.aload_n 0, 1) := by decide +kernel
theorem dX10_addPasture_24 : decode cX10_addPasture 24 = .ok (.getfield 7, 3) := by decide +kernel
theorem dX10_addPasture_27 : decode cX10_addPasture 27 = .ok (.sipush 863, 3) := by decide +kernel
theorem dX10_addPasture_30 : decode cX10_addPasture 30 = .ok (.iaload, 1) := by decide +kernel
theorem dX10_addPasture_31 : decode cX10_addPasture 31 = .ok (.bipush 8, 2) := by decide +kernel
theorem dX10_addPasture_33 : decode cX10_addPasture 33 = .ok (.if_icmp .ne 6, 3) := by decide +kernel
theorem dX10_addPasture_36 : decode cX10_addPasture 36 = .ok (.bipush (-3), 2) := by decide +kernel
theorem dX10_addPasture_38 : decode cX10_addPasture 38 = .ok (.ireturn, 1) := by decide +kernel
theorem dX10_addPasture_39 : decode cX10_addPasture 39 = .ok (.aload_n 0, 1) := by decide +kernel
theorem dX10_addPasture_40 : decode cX10_addPasture 40 = .ok (.invokevirtual 31, 3) := by decide +kernel
theorem dX10_addPasture_43 : decode cX10_addPasture 43 = .ok (.aload_n 0, 1) := by decide +kernel
theorem dX10_addPasture_44 : decode cX10_addPasture 44 = .ok (.getfield 7, 3) := by decide +kernel
theorem dX10_addPasture_47 : decode cX10_addPasture 47 = .ok (.sipush 863, 3) := by decide +kernel
theorem dX10_addPasture_50 : decode cX10_addPasture 50 = .ok (.iaload, 1) := by decide +kernel
theorem dX10_addPasture_51 : decode cX10_addPasture 51 = .ok (.istore 4, 2) := by decide +kernel
theorem dX10_addPasture_53 : decode cX10_addPasture 53 = .ok (.aload_n 0, 1) := by decide +kernel
theorem dX10_addPasture_54 : decode cX10_addPasture 54 = .ok (.getfield 7, 3) := by decide +kernel
theorem dX10_addPasture_57 : decode cX10_addPasture 57 = .ok (.iconst 0, 1) := by decide +kernel
theorem dX10_addPasture_58 : decode cX10_addPasture 58 = .ok (.iconst 4, 1) := by decide +kernel
theorem dX10_addPasture_59 : decode cX10_addPasture 59 = .ok (.iload 4, 2) := by decide +kernel
theorem dX10_addPasture_61 : decode cX10_addPasture 61 = .ok (.imul, 1) := by decide +kernel
theorem dX10_addPasture_62 : decode cX10_addPasture 62 = .ok (.iadd, 1) := by decide +kernel
theorem dX10_addPasture_63 : decode cX10_addPasture 63 = .ok (.iload_n 1, 1) := by decide +kernel
theorem dX10_addPasture_64 : decode cX10_addPasture 64 = .ok (.iastore, 1) := by decide +kernel
theorem dX10_addPasture_65 : decode cX10_addPasture 65 = .ok (.aload_n 0, 1) := by decide +kernel
theorem dX10_addPasture_66 : decode cX10_addPasture 66 = .ok (.getfield 7, 3) := by decide +kernel
theorem dX10_addPasture_69 : decode cX10_addPasture 69 = .ok (.iconst 0, 1) := by decide +kernel
theorem dX10_addPasture_70 : decode cX10_addPasture 70 = .ok (.iconst 4, 1) := by decide +kernel
theorem dX10_addPasture_71 : decode cX10_addPasture 71 = .ok (.iload 4, 2) := by decide +kernel
theorem dX10_addPasture_73 : decode cX10_addPasture 73 = .ok (.imul, 1) := by decide +kernel
theorem dX10_addPasture_74 : decode cX10_addPasture 74 = .ok (.iadd, 1) := by decide +kernel
theorem dX10_addPasture_75 : decode cX10_addPasture 75 = .ok (.iconst 1, 1) := by decide +kernel
theorem dX10_addPasture_76 : decode cX10_addPasture 76 = .ok (.iadd, 1) := by decide +kernel
theorem dX10_addPasture_77 : decode cX10_addPasture 77 = .ok (.iload_n 2, 1) := by decide +kernel
theorem dX10_addPasture_78 : decode cX10_addPasture 78 = .ok (.iastore, 1) := by decide +kernel
theorem dX10_addPasture_79 : decode cX10_addPasture 79 = .ok (.aload_n 0, 1) := by decide +kernel
theorem dX10_addPasture_80 : decode cX10_addPasture 80 = .ok (.getfield 7, 3) := by decide +kernel
theorem dX10_addPasture_83 : decode cX10_addPasture 83 = .ok (.iconst 0, 1) := by decide +kernel
theorem dX10_addPasture_84 : decode cX10_addPasture 84 = .ok (.iconst 4, 1) := by decide +kernel
theorem dX10_addPasture_85 : decode cX10_addPasture 85 = .ok (.iload 4, 2) := by decide +kernel
theorem dX10_addPasture_87 : decode cX10_addPasture 87 = .ok (.imul, 1) := by decide +kernel
theorem dX10_addPasture_88 : decode cX10_addPasture 88 = .ok (.iadd, 1) := by decide +kernel
theorem dX10_addPasture_89 : decode cX10_addPasture 89 = .ok (.iconst 2, 1) := by decide +kernel
theorem dX10_addPasture_90 : decode cX10_addPasture 90 = .ok (.iadd, 1) := by decide +kernel
theorem dX10_addPasture_91 : decode cX10_addPasture 91 = .ok (.iload_n 3, 1) := by decide +kernel
theorem dX10_addPasture_92 : decode cX10_addPasture 92 = .ok (.ifCond .eq 7, 3) := by decide +kernel
theorem dX10_addPasture_95 : decode cX10_addPasture 95 = .ok (.iconst 1, 1) := by decide +kernel
theorem dX10_addPasture_96 : decode cX10_addPasture 96 = .ok (.goto 4, 3) := by decide +kernel
theorem dX10_addPasture_99 : decode cX10_addPasture 99 = .ok (.iconst 0, 1) := by decide +kernel
theorem dX10_addPasture_100 : decode cX10_addPasture 100 = .ok (.iastore, 1) := by decide +kernel
theorem dX10_addPasture_101 : decode cX10_addPasture 101 = .ok (.aload_n 0, 1) := by decide +kernel
theorem dX10_addPasture_102 : decode cX10_addPasture 102 = .ok (.getfield 7, 3) := by decide +kernel
theorem dX10_addPasture_105 : decode cX10_addPasture 105 = .ok (.sipush 863, 3) := by decide +kernel
theorem dX10_addPasture_108 : decode cX10_addPasture 108 = .ok (.dup2, 1) := by decide +kernel
theorem dX10_addPasture_109 : decode cX10_addPasture 109 = .ok (.iaload, 1) := by decide +kernel
theorem dX10_addPasture_110 : decode cX10_addPasture 110 = .ok (.iconst 1, 1) := by decide +kernel
theorem dX10_addPasture_111 : decode cX10_addPasture 111 = .ok (.iadd, 1) := by decide +kernel
theorem dX10_addPasture_112 : decode cX10_addPasture 112 = .ok (.iastore, 1) := by decide +kernel
theorem dX10_addPasture_113 : decode cX10_addPasture 113 = .ok (.iload 4, 2) := by decide +kernel
theorem dX10_addPasture_115 : decode cX10_addPasture 115 = .ok (.ireturn, 1) := by decide +kernel
set_option maxRecDepth 100000 in
set_option maxHeartbeats 4000000 in
theorem c_X10_addPasture (l : Launch) (D : va_G) (cas : Nat → ClassId) (ad : Nat → Nat) (hi : zInj ad) {v1 : Int} {v2 : Int} {v3 : Int}  {r : Int} {M M' : Mem} (hf : f_X10_addPasture v1 v2 v3 M = some (r, M')) : zMi l D cas ad yX10_addPasture cX10_addPasture 5 (some .int) 2 44 [.ref (ad 215), .int (zI v1), .int (zI v2), .int (zI v3)] M r M' := by
  refine zbody (by decide) (Nat.le_of_ble_eq_true rfl) hi ?_
  intro p e s m args below meth c X hr hk0
  have X : zX p s m args c cX10_addPasture "ShardTrailsModel" 5 D cas ad (zA ad) := X
  have hB20 : ∀ (M : Mem), f_X10_addPasture_b20 M = some (r, M') → WW p l e (zrm 2 44) s m args below meth c D cas ad (zA ad) 5 0 0 (MQ below (zQi D cas ad r M') args s 0 0 (zA ad)) 20 [] [] M := by
    intro M hf
    unfold f_X10_addPasture_b20 at hf
    refine R_bipush X dX10_addPasture_20 (by decide +kernel) ?_
    exact R_iret X hr hk0 dX10_addPasture_22 hf
  have hB100 : ∀ (v4 t3 t2 : Int) (M : Mem), f_X10_addPasture_b100 v4 t3 t2 M = some (r, M') → WW p l e (zrm 2 44) s m args below meth c D cas ad (zA ad) 5 0 0 (MQ below (zQi D cas ad r M') args s 0 0 (zA ad)) 100 [(0, .ref (ad 215)), (4, .int (zI v4))] [.int (zI t3), .int (zI t2), .ref (ad 216)] M := by
    intro v4 t3 t2 M hf
    unfold f_X10_addPasture_b100 at hf
    obtain ⟨hq23, hf⟩ := zgrd hf
    obtain ⟨M24, eM24, hf⟩ := zlt_some hf
    refine R_iast X lc_216 hq23 dX10_addPasture_100 ?_
    refine R_mem eM24 ?_
    refine R_aload_n X 0 dX10_addPasture_101 rfl rfl ?_
    refine R_getR X (j := 0) 1 216 lc_215 rfl inX10 (by decide) rfl rfl (by decide) rfl rfl wf_X10_7 dX10_addPasture_102 ?_
    refine R_sipush X dX10_addPasture_105 (by decide +kernel) ?_
    refine R_dup2 X dX10_addPasture_108 rfl rfl ?_
    refine R_iald X lc_216 (by decide) dX10_addPasture_109 ?_
    refine R_iconst X dX10_addPasture_110 ?_
    refine R_iadd X dX10_addPasture_111 ?_
    obtain ⟨M25, eM25, hf⟩ := zlt_some hf
    refine R_iast X lc_216 (by decide) dX10_addPasture_112 ?_
    refine R_mem eM25 ?_
    refine R_iload X 1 dX10_addPasture_113 rfl ?_
    exact R_iret X hr hk0 dX10_addPasture_115 hf
  unfold f_X10_addPasture at hf
  refine (?_ : WW p l e (zrm 2 44) s m args below meth c D cas ad (zA ad) 5 0 0 (MQ below (zQi D cas ad r M') args s 0 0 (zA ad)) 0 [(0, .ref (ad 215)), (1, .int (zI v1)), (2, .int (zI v2)), (3, .int (zI v3))] [] M)
  refine R_iload_n X 1 dX10_addPasture_0 rfl rfl ?_
  refine R_iconst X dX10_addPasture_1 ?_
  refine R_bipush X dX10_addPasture_2 (by decide +kernel) ?_
  obtain ⟨r1, M2, hc3, hf⟩ := zbnd_some hf
  refine R_callSi X (av := [.int (zI v1), .int (zI 0), .int (zI 90)]) (rest := []) (c_X10_in l D cas ad hi hc3) zy_X10_in wm_X10_34 rfl rfl ⟨Nat.le_of_ble_eq_true rfl, Nat.le_of_ble_eq_true rfl⟩ ⟨Nat.le_refl _, Nat.le_refl _⟩ (Nat.le_of_ble_eq_true rfl) dX10_addPasture_4 ?_
  obtain ⟨hq4, hf⟩ := zgrd hf
  refine R_if_eq X 20 hq4 dX10_addPasture_7 (by decide) (fun c22 => ?_) (fun c22 => ?_)
  · have hf := zthen hf c22
    exact R_sub [] rfl (hB20 M2 hf)
  · have hf := zelse hf c22
    refine R_iload_n X 2 dX10_addPasture_10 rfl rfl ?_
    refine R_iconst X dX10_addPasture_11 ?_
    refine R_bipush X dX10_addPasture_12 (by decide +kernel) ?_
    obtain ⟨r5, M6, hc7, hf⟩ := zbnd_some hf
    refine R_callSi X (av := [.int (zI v2), .int (zI 1), .int (zI 16)]) (rest := []) (c_X10_in l D cas ad hi hc7) zy_X10_in wm_X10_34 rfl rfl ⟨Nat.le_of_ble_eq_true rfl, Nat.le_of_ble_eq_true rfl⟩ ⟨Nat.le_refl _, Nat.le_refl _⟩ (Nat.le_of_ble_eq_true rfl) dX10_addPasture_14 ?_
    obtain ⟨hq8, hf⟩ := zgrd hf
    refine R_if_ne X 23 hq8 dX10_addPasture_17 (by decide) (fun c21 => ?_) (fun c21 => ?_)
    · have hf := zelse hf c21
      refine R_aload_n X 0 dX10_addPasture_23 rfl rfl ?_
      refine R_getR X (j := 0) 1 216 lc_215 rfl inX10 (by decide) rfl rfl (by decide) rfl rfl wf_X10_7 dX10_addPasture_24 ?_
      refine R_sipush X dX10_addPasture_27 (by decide +kernel) ?_
      refine R_iald X lc_216 (by decide) dX10_addPasture_30 ?_
      refine R_bipush X dX10_addPasture_31 (by decide +kernel) ?_
      obtain ⟨hq9, hf⟩ := zgrd hf
      refine R_icmp_ne X 39 ⟨hq9, (by decide)⟩ dX10_addPasture_33 (by decide) (fun c20 => ?_) (fun c20 => ?_)
      · have hf := zelse hf c20
        refine R_aload_n X 0 dX10_addPasture_39 rfl rfl ?_
        obtain ⟨r10, M11, hc12, hf⟩ := zbnd_some hf
        refine R_callVv X (av := []) (rest := []) (c_X10_record l D cas ad hi hc12) zy_X10_record lc_215 rfl rfl wm_X10_31 rfl rfl ⟨Nat.le_of_ble_eq_true rfl, Nat.le_of_ble_eq_true rfl⟩ ⟨Nat.le_refl _, Nat.le_refl _⟩ (Nat.le_of_ble_eq_true rfl) dX10_addPasture_40 ?_
        refine R_aload_n X 0 dX10_addPasture_43 rfl rfl ?_
        refine R_getR X (j := 0) 1 216 lc_215 rfl inX10 (by decide) rfl rfl (by decide) rfl rfl wf_X10_7 dX10_addPasture_44 ?_
        refine R_sipush X dX10_addPasture_47 (by decide +kernel) ?_
        refine R_iald X lc_216 (by decide) dX10_addPasture_50 ?_
        obtain ⟨x13, ex13, hf⟩ := zlt_some hf
        refine R_istoreX X (lv' := [(4, .int (zI x13)), (0, .ref (ad 215)), (1, .int (zI v1)), (2, .int (zI v2)), (3, .int (zI v3))]) ex13 dX10_addPasture_51 (by decide) rfl ?_
        refine R_aload_n X 1 dX10_addPasture_53 rfl rfl ?_
        refine R_getR X (j := 0) 1 216 lc_215 rfl inX10 (by decide) rfl rfl (by decide) rfl rfl wf_X10_7 dX10_addPasture_54 ?_
        refine R_iconst X dX10_addPasture_57 ?_
        refine R_iconst X dX10_addPasture_58 ?_
        refine R_iload X 0 dX10_addPasture_59 rfl ?_
        refine R_imul X dX10_addPasture_61 ?_
        refine R_iadd X dX10_addPasture_62 ?_
        refine R_iload_n X 2 dX10_addPasture_63 rfl rfl ?_
        obtain ⟨hq14, hf⟩ := zgrd hf
        obtain ⟨M15, eM15, hf⟩ := zlt_some hf
        refine R_iast X lc_216 hq14 dX10_addPasture_64 ?_
        refine R_mem eM15 ?_
        refine R_aload_n X 1 dX10_addPasture_65 rfl rfl ?_
        refine R_getR X (j := 0) 1 216 lc_215 rfl inX10 (by decide) rfl rfl (by decide) rfl rfl wf_X10_7 dX10_addPasture_66 ?_
        refine R_iconst X dX10_addPasture_69 ?_
        refine R_iconst X dX10_addPasture_70 ?_
        refine R_iload X 0 dX10_addPasture_71 rfl ?_
        refine R_imul X dX10_addPasture_73 ?_
        refine R_iadd X dX10_addPasture_74 ?_
        refine R_iconst X dX10_addPasture_75 ?_
        refine R_iadd X dX10_addPasture_76 ?_
        refine R_iload_n X 3 dX10_addPasture_77 rfl rfl ?_
        obtain ⟨hq16, hf⟩ := zgrd hf
        obtain ⟨M17, eM17, hf⟩ := zlt_some hf
        refine R_iast X lc_216 hq16 dX10_addPasture_78 ?_
        refine R_mem eM17 ?_
        refine R_aload_n X 1 dX10_addPasture_79 rfl rfl ?_
        refine R_getR X (j := 0) 1 216 lc_215 rfl inX10 (by decide) rfl rfl (by decide) rfl rfl wf_X10_7 dX10_addPasture_80 ?_
        refine R_iconst X dX10_addPasture_83 ?_
        refine R_iconst X dX10_addPasture_84 ?_
        refine R_iload X 0 dX10_addPasture_85 rfl ?_
        refine R_imul X dX10_addPasture_87 ?_
        refine R_iadd X dX10_addPasture_88 ?_
        refine R_iconst X dX10_addPasture_89 ?_
        refine R_iadd X dX10_addPasture_90 ?_
        refine R_iload_n X 4 dX10_addPasture_91 rfl rfl ?_
        obtain ⟨hq18, hf⟩ := zgrd hf
        refine R_if_eq X 99 hq18 dX10_addPasture_92 (by decide) (fun c19 => ?_) (fun c19 => ?_)
        · have hf := zthen hf c19
          refine R_iconst X dX10_addPasture_99 ?_
          exact R_sub [1, 0] rfl (hB100 x13 0 ((0 + (4 * x13)) + 2) M17 hf)
        · have hf := zelse hf c19
          refine R_iconst X dX10_addPasture_95 ?_
          refine R_goto X 100 dX10_addPasture_96 (by decide) ?_
          exact R_sub [1, 0] rfl (hB100 x13 1 ((0 + (4 * x13)) + 2) M17 hf)
      · have hf := zthen hf c20
        refine R_bipush X dX10_addPasture_36 (by decide +kernel) ?_
        exact R_iret X hr hk0 dX10_addPasture_38 hf
    · have hf := zthen hf c21
      exact R_sub [] rfl (hB20 M6 hf)
theorem dX10_isPasture_0 : decode cX10_isPasture 0 = .ok (.iload_n 1, 1) := by decide +kernel
theorem dX10_isPasture_1 : decode cX10_isPasture 1 = .ok (.iconst 0, 1) := by decide +kernel
theorem dX10_isPasture_2 : decode cX10_isPasture 2 = .ok (.aload_n 0, 1) := by decide +kernel
theorem dX10_isPasture_3 : decode cX10_isPasture 3 = .ok (.getfield 7, 3) := by decide +kernel
theorem dX10_isPasture_6 : decode cX10_isPasture 6 = .ok (.sipush 863, 3) := by decide +kernel
theorem dX10_isPasture_9 : decode cX10_isPasture 9 = .ok (.iaload, 1) := by decide +kernel
theorem dX10_isPasture_10 : decode cX10_isPasture 10 = .ok (.iconst 1, 1) := by decide +kernel
theorem dX10_isPasture_11 : decode cX10_isPasture 11 = .ok (.isub, 1) := by decide +kernel
theorem dX10_isPasture_12 : decode cX10_isPasture 12 = .ok (.invokestatic 34, 3) := by decide +kernel
theorem dX10_isPasture_15 : decode cX10_isPasture 15 = .ok (.ireturn, 1) := by decide +kernel
set_option maxRecDepth 100000 in
set_option maxHeartbeats 4000000 in
theorem c_X10_isPasture (l : Launch) (D : va_G) (cas : Nat → ClassId) (ad : Nat → Nat) (hi : zInj ad) {v1 : Int}  {r : Int} {M M' : Mem} (hf : f_X10_isPasture v1 M = some (r, M')) : zMi l D cas ad yX10_isPasture cX10_isPasture 2 (some .boolean) 1 22 [.ref (ad 215), .int (zI v1)] M r M' := by
  refine zbody (by decide) (Nat.le_of_ble_eq_true rfl) hi ?_
  intro p e s m args below meth c X hr hk0
  have X : zX p s m args c cX10_isPasture "ShardTrailsModel" 2 D cas ad (zA ad) := X
  unfold f_X10_isPasture at hf
  refine (?_ : WW p l e (zrm 1 22) s m args below meth c D cas ad (zA ad) 2 0 0 (MQ below (zQi D cas ad r M') args s 0 0 (zA ad)) 0 [(0, .ref (ad 215)), (1, .int (zI v1))] [] M)
  refine R_iload_n X 1 dX10_isPasture_0 rfl rfl ?_
  refine R_iconst X dX10_isPasture_1 ?_
  refine R_aload_n X 0 dX10_isPasture_2 rfl rfl ?_
  refine R_getR X (j := 0) 1 216 lc_215 rfl inX10 (by decide) rfl rfl (by decide) rfl rfl wf_X10_7 dX10_isPasture_3 ?_
  refine R_sipush X dX10_isPasture_6 (by decide +kernel) ?_
  refine R_iald X lc_216 (by decide) dX10_isPasture_9 ?_
  refine R_iconst X dX10_isPasture_10 ?_
  refine R_isub X dX10_isPasture_11 ?_
  obtain ⟨r1, M2, hc3, hf⟩ := zbnd_some hf
  refine R_callSi X (av := [.int (zI v1), .int (zI 0), .int (zI ((M 216 863) - 1))]) (rest := []) (c_X10_in l D cas ad hi hc3) zy_X10_in wm_X10_34 rfl rfl ⟨Nat.le_of_ble_eq_true rfl, Nat.le_of_ble_eq_true rfl⟩ ⟨Nat.le_refl _, Nat.le_refl _⟩ (Nat.le_of_ble_eq_true rfl) dX10_isPasture_12 ?_
  obtain ⟨hq4, hf⟩ := zgrd hf
  exact R_zret X hq4 hr hk0 dX10_isPasture_15 hf
theorem dX10_addReader_0 : decode cX10_addReader 0 = .ok (.aload_n 0, 1) := by decide +kernel
theorem dX10_addReader_1 : decode cX10_addReader 1 = .ok (.iload_n 1, 1) := by decide +kernel
theorem dX10_addReader_2 : decode cX10_addReader 2 = .ok (.invokevirtual 42, 3) := by decide +kernel
theorem dX10_addReader_5 : decode cX10_addReader 5 = .ok (.ifCond .ne 5, 3) := by decide +kernel
theorem dX10_addReader_8 : decode cX10_addReader 8 = .ok (.iconst (-1), 1) := by decide +kernel
theorem dX10_addReader_9 : decode cX10_addReader 9 = .ok (.ireturn, 1) := by decide +kernel
theorem dX10_addReader_10 : decode cX10_addReader 10 = .ok (.aload_n 0, 1) := by decide +kernel
theorem dX10_addReader_11 : decode cX10_addReader 11 = .ok (.getfield 7, 3) := by decide +kernel
theorem dX10_addReader_14 : decode cX10_addReader 14 = .ok (.sipush 865, 3) := by decide +kernel
theorem dX10_addReader_17 : decode cX10_addReader 17 = .ok (.iaload, 1) := by decide +kernel
theorem dX10_addReader_18 : decode cX10_addReader 18 = .ok (.bipush 6, 2) := by decide +kernel
theorem dX10_addReader_20 : decode cX10_addReader 20 = .ok (.if_icmp .ne 6, 3) := by decide +kernel
theorem dX10_addReader_23 : decode cX10_addReader 23 = .ok (.bipush (-3), 2) := by decide +kernel
theorem dX10_addReader_25 : decode cX10_addReader 25 = .ok (.ireturn, 1) := by decide +kernel
theorem dX10_addReader_26 : decode cX10_addReader 26 = .ok (.aload_n 0, 1) := by decide +kernel
theorem dX10_addReader_27 : decode cX10_addReader 27 = .ok (.invokevirtual 31, 3) := by decide +kernel
theorem dX10_addReader_30 : decode cX10_addReader 30 = .ok (.aload_n 0, 1) := by decide +kernel
theorem dX10_addReader_31 : decode cX10_addReader 31 = .ok (.getfield 7, 3) := by decide +kernel
theorem dX10_addReader_34 : decode cX10_addReader 34 = .ok (.sipush 865, 3) := by decide +kernel
theorem dX10_addReader_37 : decode cX10_addReader 37 = .ok (.iaload, 1) := by decide +kernel
theorem dX10_addReader_38 : decode cX10_addReader 38 = .ok (.istore_n 2, 1) := by decide +kernel
theorem dX10_addReader_39 : decode cX10_addReader 39 = .ok (.aload_n 0, 1) := by decide +kernel
theorem dX10_addReader_40 : decode cX10_addReader 40 = .ok (.getfield 7, 3) := by decide +kernel
theorem dX10_addReader_43 : decode cX10_addReader 43 = .ok (.sipush 726, 3) := by decide +kernel
theorem dX10_addReader_46 : decode cX10_addReader 46 = .ok (.iconst 5, 1) := by decide +kernel
theorem dX10_addReader_47 : decode cX10_addReader 47 = .ok (.iload_n 2, 1) := by decide +kernel
theorem dX10_addReader_48 : decode cX10_addReader 48 = .ok (.imul, 1) := by decide +kernel
theorem dX10_addReader_49 : decode cX10_addReader 49 = .ok (.iadd, 1) := by decide +kernel
theorem dX10_addReader_50 : decode cX10_addReader 50 = .ok (.iload_n 1, 1) := by decide +kernel
theorem dX10_addReader_51 : decode cX10_addReader 51 = .ok (.iastore, 1) := by decide +kernel
theorem dX10_addReader_52 : decode cX10_addReader 52 = .ok (.iconst 0, 1) := by decide +kernel
theorem dX10_addReader_53 : decode cX10_addReader 53 = .ok (.istore_n 3, 1) := by decide +kernel
theorem dX10_addReader_54 : decode cX10_addReader 54 = .ok (.iload_n 3, 1) := by decide +kernel
theorem dX10_addReader_55 : decode cX10_addReader 55 = .ok (.bipush 16, 2) := by decide +kernel
theorem dX10_addReader_57 : decode cX10_addReader 57 = .ok (.if_icmp .ge 25, 3) := by decide +kernel
theorem dX10_addReader_60 : decode cX10_addReader 60 = .ok (.aload_n 0, 1) := by decide +kernel
theorem dX10_addReader_61 : decode cX10_addReader 61 = .ok (.getfield 7, 3) := by decide +kernel
theorem dX10_addReader_64 : decode cX10_addReader 64 = .ok (.sipush 756, 3) := by decide +kernel
theorem dX10_addReader_67 : decode cX10_addReader 67 = .ok (.bipush 16, 2) := by decide +kernel
theorem dX10_addReader_69 : decode cX10_addReader 69 = .ok (.iload_n 2, 1) := by decide +kernel
theorem dX10_addReader_70 : decode cX10_addReader 70 = .ok (.imul, 1) := by decide +kernel
theorem dX10_addReader_71 : decode cX10_addReader 71 = .ok (.iadd, 1) := by decide +kernel
theorem dX10_addReader_72 : decode cX10_addReader 72 = .ok (.iload_n 3, 1) := by decide +kernel
theorem dX10_addReader_73 : decode cX10_addReader 73 = .ok (.iadd, 1) := by decide +kernel
theorem dX10_addReader_74 : decode cX10_addReader 74 = .ok (.iload_n 1, 1) := by decide +kernel
theorem dX10_addReader_75 : decode cX10_addReader 75 = .ok (.iastore, 1) := by decide +kernel
theorem dX10_addReader_76 : decode cX10_addReader 76 = .ok (.iinc 3 1, 3) := by decide +kernel
theorem dX10_addReader_79 : decode cX10_addReader 79 = .ok (.goto (-25), 3) := by decide +kernel
theorem dX10_addReader_82 : decode cX10_addReader 82 = .ok (.aload_n 0, 1) := by decide +kernel
theorem dX10_addReader_83 : decode cX10_addReader 83 = .ok (.getfield 7, 3) := by decide +kernel
theorem dX10_addReader_86 : decode cX10_addReader 86 = .ok (.sipush 865, 3) := by decide +kernel
theorem dX10_addReader_89 : decode cX10_addReader 89 = .ok (.dup2, 1) := by decide +kernel
theorem dX10_addReader_90 : decode cX10_addReader 90 = .ok (.iaload, 1) := by decide +kernel
theorem dX10_addReader_91 : decode cX10_addReader 91 = .ok (.iconst 1, 1) := by decide +kernel
theorem dX10_addReader_92 : decode cX10_addReader 92 = .ok (.iadd, 1) := by decide +kernel
theorem dX10_addReader_93 : decode cX10_addReader 93 = .ok (.iastore, 1) := by decide +kernel
theorem dX10_addReader_94 : decode cX10_addReader 94 = .ok (.iload_n 2, 1) := by decide +kernel
theorem dX10_addReader_95 : decode cX10_addReader 95 = .ok (.ireturn, 1) := by decide +kernel
set_option maxRecDepth 100000 in
set_option maxHeartbeats 4000000 in
theorem c_X10_addReader (l : Launch) (D : va_G) (cas : Nat → ClassId) (ad : Nat → Nat) (hi : zInj ad) {v1 : Int}  {r : Int} {M M' : Mem} (hf : f_X10_addReader v1 M = some (r, M')) : zMi l D cas ad yX10_addReader cX10_addReader 4 (some .int) 2 44 [.ref (ad 215), .int (zI v1)] M r M' := by
  refine zbody (by decide) (Nat.le_of_ble_eq_true rfl) hi ?_
  intro p e s m args below meth c X hr hk0
  have X : zX p s m args c cX10_addReader "ShardTrailsModel" 4 D cas ad (zA ad) := X
  have hB54 : ∀ (n : Nat) (v1 v2 v3 : Int) (M : Mem), f_X10_addReader_b54 n v1 v2 v3 M = some (r, M') → WW p l e (zrm 2 44) s m args below meth c D cas ad (zA ad) 4 0 0 (MQ below (zQi D cas ad r M') args s 0 0 (zA ad)) 54 [(0, .ref (ad 215)), (1, .int (zI v1)), (2, .int (zI v2)), (3, .int (zI v3))] [] M := by
    intro n
    induction n with
    | zero => intro v1 v2 v3 M hf; exact absurd hf (by unfold f_X10_addReader_b54; simp)
    | succ n ih =>
      intro v1 v2 v3 M hf
      unfold f_X10_addReader_b54 at hf
      refine R_iload_n X 3 dX10_addReader_54 rfl rfl ?_
      refine R_bipush X dX10_addReader_55 (by decide +kernel) ?_
      obtain ⟨hq14, hf⟩ := zgrd hf
      refine R_icmp_ge X 82 ⟨hq14, (by decide)⟩ dX10_addReader_57 (by decide) (fun c18 => ?_) (fun c18 => ?_)
      · have hf := zthen hf c18
        refine R_aload_n X 0 dX10_addReader_82 rfl rfl ?_
        refine R_getR X (j := 0) 1 216 lc_215 rfl inX10 (by decide) rfl rfl (by decide) rfl rfl wf_X10_7 dX10_addReader_83 ?_
        refine R_sipush X dX10_addReader_86 (by decide +kernel) ?_
        refine R_dup2 X dX10_addReader_89 rfl rfl ?_
        refine R_iald X lc_216 (by decide) dX10_addReader_90 ?_
        refine R_iconst X dX10_addReader_91 ?_
        refine R_iadd X dX10_addReader_92 ?_
        obtain ⟨M15, eM15, hf⟩ := zlt_some hf
        refine R_iast X lc_216 (by decide) dX10_addReader_93 ?_
        refine R_mem eM15 ?_
        refine R_iload_n X 2 dX10_addReader_94 rfl rfl ?_
        exact R_iret X hr hk0 dX10_addReader_95 hf
      · have hf := zelse hf c18
        refine R_aload_n X 0 dX10_addReader_60 rfl rfl ?_
        refine R_getR X (j := 0) 1 216 lc_215 rfl inX10 (by decide) rfl rfl (by decide) rfl rfl wf_X10_7 dX10_addReader_61 ?_
        refine R_sipush X dX10_addReader_64 (by decide +kernel) ?_
        refine R_bipush X dX10_addReader_67 (by decide +kernel) ?_
        refine R_iload_n X 2 dX10_addReader_69 rfl rfl ?_
        refine R_imul X dX10_addReader_70 ?_
        refine R_iadd X dX10_addReader_71 ?_
        refine R_iload_n X 3 dX10_addReader_72 rfl rfl ?_
        refine R_iadd X dX10_addReader_73 ?_
        refine R_iload_n X 1 dX10_addReader_74 rfl rfl ?_
        obtain ⟨hq16, hf⟩ := zgrd hf
        obtain ⟨M17, eM17, hf⟩ := zlt_some hf
        refine R_iast X lc_216 hq16 dX10_addReader_75 ?_
        refine R_mem eM17 ?_
        refine R_iinc X (lv' := [(3, .int (zI (v3 + 1))), (0, .ref (ad 215)), (1, .int (zI v1)), (2, .int (zI v2))]) 3 dX10_addReader_76 rfl (by decide) rfl ?_
        refine R_goto X 54 dX10_addReader_79 (by decide) ?_
        exact R_sub [1, 2, 3, 0] rfl (ih v1 v2 (v3 + 1) M17 hf)
  unfold f_X10_addReader at hf
  refine (?_ : WW p l e (zrm 2 44) s m args below meth c D cas ad (zA ad) 4 0 0 (MQ below (zQi D cas ad r M') args s 0 0 (zA ad)) 0 [(0, .ref (ad 215)), (1, .int (zI v1))] [] M)
  refine R_aload_n X 0 dX10_addReader_0 rfl rfl ?_
  refine R_iload_n X 1 dX10_addReader_1 rfl rfl ?_
  obtain ⟨r1, M2, hc3, hf⟩ := zbnd_some hf
  refine R_callVi X (av := [.int (zI v1)]) (rest := []) (c_X10_isPasture l D cas ad hi hc3) zy_X10_isPasture lc_215 rfl rfl wm_X10_42 rfl rfl ⟨Nat.le_of_ble_eq_true rfl, Nat.le_of_ble_eq_true rfl⟩ ⟨Nat.le_refl _, Nat.le_refl _⟩ (Nat.le_of_ble_eq_true rfl) dX10_addReader_2 ?_
  obtain ⟨hq4, hf⟩ := zgrd hf
  refine R_if_ne X 10 hq4 dX10_addReader_5 (by decide) (fun c13 => ?_) (fun c13 => ?_)
  · have hf := zelse hf c13
    refine R_aload_n X 0 dX10_addReader_10 rfl rfl ?_
    refine R_getR X (j := 0) 1 216 lc_215 rfl inX10 (by decide) rfl rfl (by decide) rfl rfl wf_X10_7 dX10_addReader_11 ?_
    refine R_sipush X dX10_addReader_14 (by decide +kernel) ?_
    refine R_iald X lc_216 (by decide) dX10_addReader_17 ?_
    refine R_bipush X dX10_addReader_18 (by decide +kernel) ?_
    obtain ⟨hq5, hf⟩ := zgrd hf
    refine R_icmp_ne X 26 ⟨hq5, (by decide)⟩ dX10_addReader_20 (by decide) (fun c12 => ?_) (fun c12 => ?_)
    · have hf := zelse hf c12
      refine R_aload_n X 0 dX10_addReader_26 rfl rfl ?_
      obtain ⟨r6, M7, hc8, hf⟩ := zbnd_some hf
      refine R_callVv X (av := []) (rest := []) (c_X10_record l D cas ad hi hc8) zy_X10_record lc_215 rfl rfl wm_X10_31 rfl rfl ⟨Nat.le_of_ble_eq_true rfl, Nat.le_of_ble_eq_true rfl⟩ ⟨Nat.le_refl _, Nat.le_refl _⟩ (Nat.le_of_ble_eq_true rfl) dX10_addReader_27 ?_
      refine R_aload_n X 0 dX10_addReader_30 rfl rfl ?_
      refine R_getR X (j := 0) 1 216 lc_215 rfl inX10 (by decide) rfl rfl (by decide) rfl rfl wf_X10_7 dX10_addReader_31 ?_
      refine R_sipush X dX10_addReader_34 (by decide +kernel) ?_
      refine R_iald X lc_216 (by decide) dX10_addReader_37 ?_
      obtain ⟨x9, ex9, hf⟩ := zlt_some hf
      refine R_istore_nX X (lv' := [(2, .int (zI x9)), (0, .ref (ad 215)), (1, .int (zI v1))]) ex9 dX10_addReader_38 rfl (by decide) rfl ?_
      refine R_aload_n X 1 dX10_addReader_39 rfl rfl ?_
      refine R_getR X (j := 0) 1 216 lc_215 rfl inX10 (by decide) rfl rfl (by decide) rfl rfl wf_X10_7 dX10_addReader_40 ?_
      refine R_sipush X dX10_addReader_43 (by decide +kernel) ?_
      refine R_iconst X dX10_addReader_46 ?_
      refine R_iload_n X 0 dX10_addReader_47 rfl rfl ?_
      refine R_imul X dX10_addReader_48 ?_
      refine R_iadd X dX10_addReader_49 ?_
      refine R_iload_n X 2 dX10_addReader_50 rfl rfl ?_
      obtain ⟨hq10, hf⟩ := zgrd hf
      obtain ⟨M11, eM11, hf⟩ := zlt_some hf
      refine R_iast X lc_216 hq10 dX10_addReader_51 ?_
      refine R_mem eM11 ?_
      refine R_iconst X dX10_addReader_52 ?_
      refine R_istore_n X (lv' := [(3, .int (zI 0)), (2, .int (zI x9)), (0, .ref (ad 215)), (1, .int (zI v1))]) dX10_addReader_53 rfl (by decide) rfl ?_
      exact R_sub [2, 3, 1, 0] rfl (hB54 100000 v1 x9 0 M11 hf)
    · have hf := zthen hf c12
      refine R_bipush X dX10_addReader_23 (by decide +kernel) ?_
      exact R_iret X hr hk0 dX10_addReader_25 hf
  · have hf := zthen hf c13
    refine R_iconst X dX10_addReader_8 ?_
    exact R_iret X hr hk0 dX10_addReader_9 hf
theorem dX10_addWolf_0 : decode cX10_addWolf 0 = .ok (.aload_n 0, 1) := by decide +kernel
theorem dX10_addWolf_1 : decode cX10_addWolf 1 = .ok (.iload_n 1, 1) := by decide +kernel
theorem dX10_addWolf_2 : decode cX10_addWolf 2 = .ok (.invokevirtual 42, 3) := by decide +kernel
theorem dX10_addWolf_5 : decode cX10_addWolf 5 = .ok (.ifCond .ne 5, 3) := by decide +kernel
theorem dX10_addWolf_8 : decode cX10_addWolf 8 = .ok (.iconst (-1), 1) := by decide +kernel
theorem dX10_addWolf_9 : decode cX10_addWolf 9 = .ok (.ireturn, 1) := by decide +kernel
theorem dX10_addWolf_10 : decode cX10_addWolf 10 = .ok (.iload_n 2, 1) := by decide +kernel
theorem dX10_addWolf_11 : decode cX10_addWolf 11 = .ok (.iconst 1, 1) := by decide +kernel
theorem dX10_addWolf_12 : decode cX10_addWolf 12 = .ok (.bipush 7, 2) := by decide +kernel
theorem dX10_addWolf_14 : decode cX10_addWolf 14 = .ok (.invokestatic 34, 3) := by decide +kernel
theorem dX10_addWolf_17 : decode cX10_addWolf 17 = .ok (.ifCond .ne 6, 3) := by decide +kernel
theorem dX10_addWolf_20 : decode cX10_addWolf 20 = .ok (.bipush (-2), 2) := by decide +kernel
theorem dX10_addWolf_22 : decode cX10_addWolf 22 = .ok (.ireturn, 1) := by decide +kernel
theorem dX10_addWolf_23 : decode cX10_addWolf 23 = .ok (.aload_n 0, 1) := by decide +kernel
theorem dX10_addWolf_24 : decode cX10_addWolf 24 = .ok (.getfield 7, 3) := by decide +kernel
theorem dX10_addWolf_27 : decode cX10_addWolf 27 = .ok (.sipush 864, 3) := by decide +kernel
theorem dX10_addWolf_30 : decode cX10_addWolf 30 = .ok (.iaload, 1) := by decide +kernel
theorem dX10_addWolf_31 : decode cX10_addWolf 31 = .ok (.iconst 3, 1) := by decide +kernel
theorem dX10_addWolf_32 : decode cX10_addWolf 32 = .ok (.if_icmp .ne 6, 3) := by decide +kernel
theorem dX10_addWolf_35 : decode cX10_addWolf 35 = .ok (.bipush (-3), 2) := by decide +kernel
theorem dX10_addWolf_37 : decode cX10_addWolf 37 = .ok (.ireturn, 1) := by decide +kernel
theorem dX10_addWolf_38 : decode cX10_addWolf 38 = .ok (.aload_n 0, 1) := by decide +kernel
theorem dX10_addWolf_39 : decode cX10_addWolf 39 = .ok (.invokevirtual 31, 3) := by decide +kernel
theorem dX10_addWolf_42 : decode cX10_addWolf 42 = .ok (.aload_n 0, 1) := by decide +kernel
theorem dX10_addWolf_43 : decode cX10_addWolf 43 = .ok (.getfield 7, 3) := by decide +kernel
theorem dX10_addWolf_46 : decode cX10_addWolf 46 = .ok (.sipush 720, 3) := by decide +kernel
theorem dX10_addWolf_49 : decode cX10_addWolf 49 = .ok (.iconst 2, 1) := by decide +kernel
theorem dX10_addWolf_50 : decode cX10_addWolf 50 = .ok (.aload_n 0, 1) := by decide +kernel
theorem dX10_addWolf_51 : decode cX10_addWolf 51 = .ok (.getfield 7, 3) := by decide +kernel
theorem dX10_addWolf_54 : decode cX10_addWolf 54 = .ok (.sipush 864, 3) := by decide +kernel
theorem dX10_addWolf_57 : decode cX10_addWolf 57 = .ok (.iaload, 1) := by decide +kernel
theorem dX10_addWolf_58 : decode cX10_addWolf 58 = .ok (.imul, 1) := by decide +kernel
theorem dX10_addWolf_59 : decode cX10_addWolf 59 = .ok (.iadd, 1) := by decide +kernel
theorem dX10_addWolf_60 : decode cX10_addWolf 60 = .ok (.iload_n 1, 1) := by decide +kernel
theorem dX10_addWolf_61 : decode cX10_addWolf 61 = .ok (.iastore, 1) := by decide +kernel
theorem dX10_addWolf_62 : decode cX10_addWolf 62 = .ok (.aload_n 0, 1) := by decide +kernel
theorem dX10_addWolf_63 : decode cX10_addWolf 63 = .ok (.getfield 7, 3) := by decide +kernel
theorem dX10_addWolf_66 : decode cX10_addWolf 66 = .ok (.sipush 720, 3) := by decide +kernel
theorem dX10_addWolf_69 : decode cX10_addWolf 69 = .ok (.iconst 2, 1) := by decide +kernel
theorem dX10_addWolf_70 : decode cX10_addWolf 70 = .ok (.aload_n 0, 1) := by decide +kernel
theorem dX10_addWolf_71 : decode cX10_addWolf 71 = .ok (.getfield 7, 3) := by decide +kernel
theorem dX10_addWolf_74 : decode cX10_addWolf 74 = .ok (.sipush 864, 3) := by decide +kernel
theorem dX10_addWolf_77 : decode cX10_addWolf 77 = .ok (.iaload, 1) := by decide +kernel
theorem dX10_addWolf_78 : decode cX10_addWolf 78 = .ok (.imul, 1) := by decide +kernel
theorem dX10_addWolf_79 : decode cX10_addWolf 79 = .ok (.iadd, 1) := by decide +kernel
theorem dX10_addWolf_80 : decode cX10_addWolf 80 = .ok (.iconst 1, 1) := by decide +kernel
theorem dX10_addWolf_81 : decode cX10_addWolf 81 = .ok (.iadd, 1) := by decide +kernel
theorem dX10_addWolf_82 : decode cX10_addWolf 82 = .ok (.iload_n 2, 1) := by decide +kernel
theorem dX10_addWolf_83 : decode cX10_addWolf 83 = .ok (.iastore, 1) := by decide +kernel
theorem dX10_addWolf_84 : decode cX10_addWolf 84 = .ok (.aload_n 0, 1) := by decide +kernel
theorem dX10_addWolf_85 : decode cX10_addWolf 85 = .ok (.getfield 7, 3) := by decide +kernel
theorem dX10_addWolf_88 : decode cX10_addWolf 88 = .ok (.sipush 864, 3) := by decide +kernel
theorem dX10_addWolf_91 : decode cX10_addWolf 91 = .ok (.dup2, 1) := by decide +kernel
theorem dX10_addWolf_92 : decode cX10_addWolf 92 = .ok (.iaload, 1) := by decide +kernel
theorem dX10_addWolf_93 : decode cX10_addWolf 93 = .ok (.iconst 1, 1) := by decide +kernel
theorem dX10_addWolf_94 : decode cX10_addWolf 94 = .ok (.iadd, 1) := by decide +kernel
theorem dX10_addWolf_95 : decode cX10_addWolf 95 = .ok (.iastore, 1) := by decide +kernel
theorem dX10_addWolf_96 : decode cX10_addWolf 96 = .ok (.aload_n 0, 1) := by decide +kernel
theorem dX10_addWolf_97 : decode cX10_addWolf 97 = .ok (.getfield 7, 3) := by decide +kernel
theorem dX10_addWolf_100 : decode cX10_addWolf 100 = .ok (.sipush 864, 3) := by decide +kernel
theorem dX10_addWolf_103 : decode cX10_addWolf 103 = .ok (.iaload, 1) := by decide +kernel
theorem dX10_addWolf_104 : decode cX10_addWolf 104 = .ok (.iconst 1, 1) := by decide +kernel
theorem dX10_addWolf_105 : decode cX10_addWolf 105 = .ok (.isub, 1) := by decide +kernel
theorem dX10_addWolf_106 : decode cX10_addWolf 106 = .ok (.ireturn, 1) := by decide +kernel
set_option maxRecDepth 100000 in
set_option maxHeartbeats 4000000 in
theorem c_X10_addWolf (l : Launch) (D : va_G) (cas : Nat → ClassId) (ad : Nat → Nat) (hi : zInj ad) {v1 : Int} {v2 : Int}  {r : Int} {M M' : Mem} (hf : f_X10_addWolf v1 v2 M = some (r, M')) : zMi l D cas ad yX10_addWolf cX10_addWolf 3 (some .int) 2 44 [.ref (ad 215), .int (zI v1), .int (zI v2)] M r M' := by
  refine zbody (by decide) (Nat.le_of_ble_eq_true rfl) hi ?_
  intro p e s m args below meth c X hr hk0
  have X : zX p s m args c cX10_addWolf "ShardTrailsModel" 3 D cas ad (zA ad) := X
  unfold f_X10_addWolf at hf
  refine (?_ : WW p l e (zrm 2 44) s m args below meth c D cas ad (zA ad) 3 0 0 (MQ below (zQi D cas ad r M') args s 0 0 (zA ad)) 0 [(0, .ref (ad 215)), (1, .int (zI v1)), (2, .int (zI v2))] [] M)
  refine R_aload_n X 0 dX10_addWolf_0 rfl rfl ?_
  refine R_iload_n X 1 dX10_addWolf_1 rfl rfl ?_
  obtain ⟨r1, M2, hc3, hf⟩ := zbnd_some hf
  refine R_callVi X (av := [.int (zI v1)]) (rest := []) (c_X10_isPasture l D cas ad hi hc3) zy_X10_isPasture lc_215 rfl rfl wm_X10_42 rfl rfl ⟨Nat.le_of_ble_eq_true rfl, Nat.le_of_ble_eq_true rfl⟩ ⟨Nat.le_refl _, Nat.le_refl _⟩ (Nat.le_of_ble_eq_true rfl) dX10_addWolf_2 ?_
  obtain ⟨hq4, hf⟩ := zgrd hf
  refine R_if_ne X 10 hq4 dX10_addWolf_5 (by decide) (fun c20 => ?_) (fun c20 => ?_)
  · have hf := zelse hf c20
    refine R_iload_n X 2 dX10_addWolf_10 rfl rfl ?_
    refine R_iconst X dX10_addWolf_11 ?_
    refine R_bipush X dX10_addWolf_12 (by decide +kernel) ?_
    obtain ⟨r5, M6, hc7, hf⟩ := zbnd_some hf
    refine R_callSi X (av := [.int (zI v2), .int (zI 1), .int (zI 7)]) (rest := []) (c_X10_in l D cas ad hi hc7) zy_X10_in wm_X10_34 rfl rfl ⟨Nat.le_of_ble_eq_true rfl, Nat.le_of_ble_eq_true rfl⟩ ⟨Nat.le_refl _, Nat.le_refl _⟩ (Nat.le_of_ble_eq_true rfl) dX10_addWolf_14 ?_
    obtain ⟨hq8, hf⟩ := zgrd hf
    refine R_if_ne X 23 hq8 dX10_addWolf_17 (by decide) (fun c19 => ?_) (fun c19 => ?_)
    · have hf := zelse hf c19
      refine R_aload_n X 0 dX10_addWolf_23 rfl rfl ?_
      refine R_getR X (j := 0) 1 216 lc_215 rfl inX10 (by decide) rfl rfl (by decide) rfl rfl wf_X10_7 dX10_addWolf_24 ?_
      refine R_sipush X dX10_addWolf_27 (by decide +kernel) ?_
      refine R_iald X lc_216 (by decide) dX10_addWolf_30 ?_
      refine R_iconst X dX10_addWolf_31 ?_
      obtain ⟨hq9, hf⟩ := zgrd hf
      refine R_icmp_ne X 38 ⟨hq9, (by decide)⟩ dX10_addWolf_32 (by decide) (fun c18 => ?_) (fun c18 => ?_)
      · have hf := zelse hf c18
        refine R_aload_n X 0 dX10_addWolf_38 rfl rfl ?_
        obtain ⟨r10, M11, hc12, hf⟩ := zbnd_some hf
        refine R_callVv X (av := []) (rest := []) (c_X10_record l D cas ad hi hc12) zy_X10_record lc_215 rfl rfl wm_X10_31 rfl rfl ⟨Nat.le_of_ble_eq_true rfl, Nat.le_of_ble_eq_true rfl⟩ ⟨Nat.le_refl _, Nat.le_refl _⟩ (Nat.le_of_ble_eq_true rfl) dX10_addWolf_39 ?_
        refine R_aload_n X 0 dX10_addWolf_42 rfl rfl ?_
        refine R_getR X (j := 0) 1 216 lc_215 rfl inX10 (by decide) rfl rfl (by decide) rfl rfl wf_X10_7 dX10_addWolf_43 ?_
        refine R_sipush X dX10_addWolf_46 (by decide +kernel) ?_
        refine R_iconst X dX10_addWolf_49 ?_
        refine R_aload_n X 0 dX10_addWolf_50 rfl rfl ?_
        refine R_getR X (j := 0) 1 216 lc_215 rfl inX10 (by decide) rfl rfl (by decide) rfl rfl wf_X10_7 dX10_addWolf_51 ?_
        refine R_sipush X dX10_addWolf_54 (by decide +kernel) ?_
        refine R_iald X lc_216 (by decide) dX10_addWolf_57 ?_
        refine R_imul X dX10_addWolf_58 ?_
        refine R_iadd X dX10_addWolf_59 ?_
        refine R_iload_n X 1 dX10_addWolf_60 rfl rfl ?_
        obtain ⟨hq13, hf⟩ := zgrd hf
        obtain ⟨M14, eM14, hf⟩ := zlt_some hf
        refine R_iast X lc_216 hq13 dX10_addWolf_61 ?_
        refine R_mem eM14 ?_
        refine R_aload_n X 0 dX10_addWolf_62 rfl rfl ?_
        refine R_getR X (j := 0) 1 216 lc_215 rfl inX10 (by decide) rfl rfl (by decide) rfl rfl wf_X10_7 dX10_addWolf_63 ?_
        refine R_sipush X dX10_addWolf_66 (by decide +kernel) ?_
        refine R_iconst X dX10_addWolf_69 ?_
        refine R_aload_n X 0 dX10_addWolf_70 rfl rfl ?_
        refine R_getR X (j := 0) 1 216 lc_215 rfl inX10 (by decide) rfl rfl (by decide) rfl rfl wf_X10_7 dX10_addWolf_71 ?_
        refine R_sipush X dX10_addWolf_74 (by decide +kernel) ?_
        refine R_iald X lc_216 (by decide) dX10_addWolf_77 ?_
        refine R_imul X dX10_addWolf_78 ?_
        refine R_iadd X dX10_addWolf_79 ?_
        refine R_iconst X dX10_addWolf_80 ?_
        refine R_iadd X dX10_addWolf_81 ?_
        refine R_iload_n X 2 dX10_addWolf_82 rfl rfl ?_
        obtain ⟨hq15, hf⟩ := zgrd hf
        obtain ⟨M16, eM16, hf⟩ := zlt_some hf
        refine R_iast X lc_216 hq15 dX10_addWolf_83 ?_
        refine R_mem eM16 ?_
        refine R_aload_n X 0 dX10_addWolf_84 rfl rfl ?_
        refine R_getR X (j := 0) 1 216 lc_215 rfl inX10 (by decide) rfl rfl (by decide) rfl rfl wf_X10_7 dX10_addWolf_85 ?_
        refine R_sipush X dX10_addWolf_88 (by decide +kernel) ?_
        refine R_dup2 X dX10_addWolf_91 rfl rfl ?_
        refine R_iald X lc_216 (by decide) dX10_addWolf_92 ?_
        refine R_iconst X dX10_addWolf_93 ?_
        refine R_iadd X dX10_addWolf_94 ?_
        obtain ⟨M17, eM17, hf⟩ := zlt_some hf
        refine R_iast X lc_216 (by decide) dX10_addWolf_95 ?_
        refine R_mem eM17 ?_
        refine R_aload_n X 0 dX10_addWolf_96 rfl rfl ?_
        refine R_getR X (j := 0) 1 216 lc_215 rfl inX10 (by decide) rfl rfl (by decide) rfl rfl wf_X10_7 dX10_addWolf_97 ?_
        refine R_sipush X dX10_addWolf_100 (by decide +kernel) ?_
        refine R_iald X lc_216 (by decide) dX10_addWolf_103 ?_
        refine R_iconst X dX10_addWolf_104 ?_
        refine R_isub X dX10_addWolf_105 ?_
        exact R_iret X hr hk0 dX10_addWolf_106 hf
      · have hf := zthen hf c18
        refine R_bipush X dX10_addWolf_35 (by decide +kernel) ?_
        exact R_iret X hr hk0 dX10_addWolf_37 hf
    · have hf := zthen hf c19
      refine R_bipush X dX10_addWolf_20 (by decide +kernel) ?_
      exact R_iret X hr hk0 dX10_addWolf_22 hf
  · have hf := zthen hf c20
    refine R_iconst X dX10_addWolf_8 ?_
    exact R_iret X hr hk0 dX10_addWolf_9 hf
theorem dX10_isKey_0 : decode cX10_isKey 0 = .ok (.iload_n 0, 1) := by decide +kernel
theorem dX10_isKey_1 : decode cX10_isKey 1 = .ok (.iconst 0, 1) := by decide +kernel
theorem dX10_isKey_2 : decode cX10_isKey 2 = .ok (.sipush 255, 3) := by decide +kernel
theorem dX10_isKey_5 : decode cX10_isKey 5 = .ok (.invokestatic 34, 3) := by decide +kernel
theorem dX10_isKey_8 : decode cX10_isKey 8 = .ok (.ireturn, 1) := by decide +kernel
set_option maxRecDepth 100000 in
set_option maxHeartbeats 4000000 in
theorem c_X10_isKey (l : Launch) (D : va_G) (cas : Nat → ClassId) (ad : Nat → Nat) (hi : zInj ad) {v0 : Int}  {r : Int} {M M' : Mem} (hf : f_X10_isKey v0 M = some (r, M')) : zMi l D cas ad yX10_isKey cX10_isKey 1 (some .boolean) 1 22 [.int (zI v0)] M r M' := by
  refine zbody (by decide) (Nat.le_of_ble_eq_true rfl) hi ?_
  intro p e s m args below meth c X hr hk0
  have X : zX p s m args c cX10_isKey "ShardTrailsModel" 1 D cas ad (zA ad) := X
  unfold f_X10_isKey at hf
  refine (?_ : WW p l e (zrm 1 22) s m args below meth c D cas ad (zA ad) 1 0 0 (MQ below (zQi D cas ad r M') args s 0 0 (zA ad)) 0 [(0, .int (zI v0))] [] M)
  refine R_iload_n X 0 dX10_isKey_0 rfl rfl ?_
  refine R_iconst X dX10_isKey_1 ?_
  refine R_sipush X dX10_isKey_2 (by decide +kernel) ?_
  obtain ⟨r1, M2, hc3, hf⟩ := zbnd_some hf
  refine R_callSi X (av := [.int (zI v0), .int (zI 0), .int (zI 255)]) (rest := []) (c_X10_in l D cas ad hi hc3) zy_X10_in wm_X10_34 rfl rfl ⟨Nat.le_of_ble_eq_true rfl, Nat.le_of_ble_eq_true rfl⟩ ⟨Nat.le_refl _, Nat.le_refl _⟩ (Nat.le_of_ble_eq_true rfl) dX10_isKey_5 ?_
  obtain ⟨hq4, hf⟩ := zgrd hf
  exact R_zret X hq4 hr hk0 dX10_isKey_8 hf
theorem dX10_isReader_0 : decode cX10_isReader 0 = .ok (.iload_n 1, 1) := by decide +kernel
theorem dX10_isReader_1 : decode cX10_isReader 1 = .ok (.iconst 0, 1) := by decide +kernel
theorem dX10_isReader_2 : decode cX10_isReader 2 = .ok (.aload_n 0, 1) := by decide +kernel
theorem dX10_isReader_3 : decode cX10_isReader 3 = .ok (.getfield 7, 3) := by decide +kernel
theorem dX10_isReader_6 : decode cX10_isReader 6 = .ok (.sipush 865, 3) := by decide +kernel
theorem dX10_isReader_9 : decode cX10_isReader 9 = .ok (.iaload, 1) := by decide +kernel
theorem dX10_isReader_10 : decode cX10_isReader 10 = .ok (.iconst 1, 1) := by decide +kernel
theorem dX10_isReader_11 : decode cX10_isReader 11 = .ok (.isub, 1) := by decide +kernel
theorem dX10_isReader_12 : decode cX10_isReader 12 = .ok (.invokestatic 34, 3) := by decide +kernel
theorem dX10_isReader_15 : decode cX10_isReader 15 = .ok (.ireturn, 1) := by decide +kernel
set_option maxRecDepth 100000 in
set_option maxHeartbeats 4000000 in
theorem c_X10_isReader (l : Launch) (D : va_G) (cas : Nat → ClassId) (ad : Nat → Nat) (hi : zInj ad) {v1 : Int}  {r : Int} {M M' : Mem} (hf : f_X10_isReader v1 M = some (r, M')) : zMi l D cas ad yX10_isReader cX10_isReader 2 (some .boolean) 1 22 [.ref (ad 215), .int (zI v1)] M r M' := by
  refine zbody (by decide) (Nat.le_of_ble_eq_true rfl) hi ?_
  intro p e s m args below meth c X hr hk0
  have X : zX p s m args c cX10_isReader "ShardTrailsModel" 2 D cas ad (zA ad) := X
  unfold f_X10_isReader at hf
  refine (?_ : WW p l e (zrm 1 22) s m args below meth c D cas ad (zA ad) 2 0 0 (MQ below (zQi D cas ad r M') args s 0 0 (zA ad)) 0 [(0, .ref (ad 215)), (1, .int (zI v1))] [] M)
  refine R_iload_n X 1 dX10_isReader_0 rfl rfl ?_
  refine R_iconst X dX10_isReader_1 ?_
  refine R_aload_n X 0 dX10_isReader_2 rfl rfl ?_
  refine R_getR X (j := 0) 1 216 lc_215 rfl inX10 (by decide) rfl rfl (by decide) rfl rfl wf_X10_7 dX10_isReader_3 ?_
  refine R_sipush X dX10_isReader_6 (by decide +kernel) ?_
  refine R_iald X lc_216 (by decide) dX10_isReader_9 ?_
  refine R_iconst X dX10_isReader_10 ?_
  refine R_isub X dX10_isReader_11 ?_
  obtain ⟨r1, M2, hc3, hf⟩ := zbnd_some hf
  refine R_callSi X (av := [.int (zI v1), .int (zI 0), .int (zI ((M 216 865) - 1))]) (rest := []) (c_X10_in l D cas ad hi hc3) zy_X10_in wm_X10_34 rfl rfl ⟨Nat.le_of_ble_eq_true rfl, Nat.le_of_ble_eq_true rfl⟩ ⟨Nat.le_refl _, Nat.le_refl _⟩ (Nat.le_of_ble_eq_true rfl) dX10_isReader_12 ?_
  obtain ⟨hq4, hf⟩ := zgrd hf
  exact R_zret X hq4 hr hk0 dX10_isReader_15 hf
theorem dX10_nextBehind_0 : decode cX10_nextBehind 0 = .ok (.iload_n 1, 1) := by decide +kernel
theorem dX10_nextBehind_1 : decode cX10_nextBehind 1 = .ok (.istore_n 2, 1) := by decide +kernel
theorem dX10_nextBehind_2 : decode cX10_nextBehind 2 = .ok (.iload_n 2, 1) := by decide +kernel
theorem dX10_nextBehind_3 : decode cX10_nextBehind 3 = .ok (.aload_n 0, 1) := by decide +kernel
theorem dX10_nextBehind_4 : decode cX10_nextBehind 4 = .ok (.getfield 156, 3) := by decide +kernel
theorem dX10_nextBehind_7 : decode cX10_nextBehind 7 = .ok (.if_icmp .ge 20, 3) := by decide +kernel
theorem dX10_nextBehind_10 : decode cX10_nextBehind 10 = .ok (.aload_n 0, 1) := by decide +kernel
theorem dX10_nextBehind_11 : decode cX10_nextBehind 11 = .ok (.getfield 13, 3) := by decide +kernel
theorem dX10_nextBehind_14 : decode cX10_nextBehind 14 = .ok (.iload_n 2, 1) := by decide +kernel
theorem dX10_nextBehind_15 : decode cX10_nextBehind 15 = .ok (.iaload, 1) := by decide +kernel
theorem dX10_nextBehind_16 : decode cX10_nextBehind 16 = .ok (.bipush 44, 2) := by decide +kernel
theorem dX10_nextBehind_18 : decode cX10_nextBehind 18 = .ok (.if_icmp .eq 9, 3) := by decide +kernel
theorem dX10_nextBehind_21 : decode cX10_nextBehind 21 = .ok (.iinc 2 1, 3) := by decide +kernel
theorem dX10_nextBehind_24 : decode cX10_nextBehind 24 = .ok (.goto (-22), 3) := by decide +kernel
theorem dX10_nextBehind_27 : decode cX10_nextBehind 27 = .ok (.iload_n 2, 1) := by decide +kernel
theorem dX10_nextBehind_28 : decode cX10_nextBehind 28 = .ok (.iconst 1, 1) := by decide +kernel
theorem dX10_nextBehind_29 : decode cX10_nextBehind 29 = .ok (.iadd, 1) := by decide +kernel
theorem dX10_nextBehind_30 : decode cX10_nextBehind 30 = .ok (.ireturn, 1) := by decide +kernel
set_option maxRecDepth 100000 in
set_option maxHeartbeats 4000000 in
theorem c_X10_nextBehind (l : Launch) (D : va_G) (cas : Nat → ClassId) (ad : Nat → Nat) (hi : zInj ad) {v1 : Int}  {r : Int} {M M' : Mem} (hf : f_X10_nextBehind v1 M = some (r, M')) : zMi l D cas ad yX10_nextBehind cX10_nextBehind 3 (some .int) 0 0 [.ref (ad 215), .int (zI v1)] M r M' := by
  refine zbody (by decide) (Nat.le_of_ble_eq_true rfl) hi ?_
  intro p e s m args below meth c X hr hk0
  have X : zX p s m args c cX10_nextBehind "ShardTrailsModel" 3 D cas ad (zA ad) := X
  have hB27 : ∀ (v2 : Int) (M : Mem), f_X10_nextBehind_b27 v2 M = some (r, M') → WW p l e (zrm 0 0) s m args below meth c D cas ad (zA ad) 3 0 0 (MQ below (zQi D cas ad r M') args s 0 0 (zA ad)) 27 [(2, .int (zI v2))] [] M := by
    intro v2 M hf
    unfold f_X10_nextBehind_b27 at hf
    refine R_iload_n X 0 dX10_nextBehind_27 rfl rfl ?_
    refine R_iconst X dX10_nextBehind_28 ?_
    refine R_iadd X dX10_nextBehind_29 ?_
    exact R_iret X hr hk0 dX10_nextBehind_30 hf
  have hB2 : ∀ (n : Nat) (v2 : Int) (M : Mem), f_X10_nextBehind_b2 n v2 M = some (r, M') → WW p l e (zrm 0 0) s m args below meth c D cas ad (zA ad) 3 0 0 (MQ below (zQi D cas ad r M') args s 0 0 (zA ad)) 2 [(0, .ref (ad 215)), (2, .int (zI v2))] [] M := by
    intro n
    induction n with
    | zero => intro v2 M hf; exact absurd hf (by unfold f_X10_nextBehind_b2; simp)
    | succ n ih =>
      intro v2 M hf
      unfold f_X10_nextBehind_b2 at hf
      refine R_iload_n X 1 dX10_nextBehind_2 rfl rfl ?_
      refine R_aload_n X 0 dX10_nextBehind_3 rfl rfl ?_
      refine R_getI X (j := 4) lc_215 rfl inX10 (by decide) rfl rfl rfl wf_X10_156 dX10_nextBehind_4 ?_
      obtain ⟨hq1, hf⟩ := zgrd hf
      obtain ⟨hq2, hf⟩ := zgrd hf
      refine R_icmp_ge X 27 ⟨hq1, hq2⟩ dX10_nextBehind_7 (by decide) (fun c6 => ?_) (fun c6 => ?_)
      · have hf := zthen hf c6
        exact R_sub [1] rfl (hB27 v2 M hf)
      · have hf := zelse hf c6
        refine R_aload_n X 0 dX10_nextBehind_10 rfl rfl ?_
        refine R_getR X (j := 3) 2 217 lc_215 rfl inX10 (by decide) rfl rfl (by decide) rfl rfl wf_X10_13 dX10_nextBehind_11 ?_
        refine R_iload_n X 1 dX10_nextBehind_14 rfl rfl ?_
        obtain ⟨hq3, hf⟩ := zgrd hf
        refine R_iald X lc_217 hq3 dX10_nextBehind_15 ?_
        refine R_bipush X dX10_nextBehind_16 (by decide +kernel) ?_
        obtain ⟨hq4, hf⟩ := zgrd hf
        refine R_icmp_eq X 27 ⟨hq4, (by decide)⟩ dX10_nextBehind_18 (by decide) (fun c5 => ?_) (fun c5 => ?_)
        · have hf := zthen hf c5
          exact R_sub [1] rfl (hB27 v2 M hf)
        · have hf := zelse hf c5
          refine R_iinc X (lv' := [(2, .int (zI (v2 + 1))), (0, .ref (ad 215))]) 1 dX10_nextBehind_21 rfl (by decide) rfl ?_
          refine R_goto X 2 dX10_nextBehind_24 (by decide) ?_
          exact R_sub [1, 0] rfl (ih (v2 + 1) M hf)
  unfold f_X10_nextBehind at hf
  refine (?_ : WW p l e (zrm 0 0) s m args below meth c D cas ad (zA ad) 3 0 0 (MQ below (zQi D cas ad r M') args s 0 0 (zA ad)) 0 [(0, .ref (ad 215)), (1, .int (zI v1))] [] M)
  refine R_iload_n X 1 dX10_nextBehind_0 rfl rfl ?_
  refine R_istore_n X (lv' := [(2, .int (zI v1)), (0, .ref (ad 215)), (1, .int (zI v1))]) dX10_nextBehind_1 rfl (by decide) rfl ?_
  exact R_sub [1, 0] rfl (hB2 100000 v1 M hf)
theorem dX10_numberAt_0 : decode cX10_numberAt 0 = .ok (.iconst 0, 1) := by decide +kernel
theorem dX10_numberAt_1 : decode cX10_numberAt 1 = .ok (.istore_n 2, 1) := by decide +kernel
theorem dX10_numberAt_2 : decode cX10_numberAt 2 = .ok (.iload_n 1, 1) := by decide +kernel
theorem dX10_numberAt_3 : decode cX10_numberAt 3 = .ok (.istore_n 3, 1) := by decide +kernel
theorem dX10_numberAt_4 : decode cX10_numberAt 4 = .ok (.iload_n 3, 1) := by decide +kernel
theorem dX10_numberAt_5 : decode cX10_numberAt 5 = .ok (.aload_n 0, 1) := by decide +kernel
theorem dX10_numberAt_6 : decode cX10_numberAt 6 = .ok (.getfield 156, 3) := by decide +kernel
theorem dX10_numberAt_9 : decode cX10_numberAt 9 = .ok (.if_icmp .ge 40, 3) := by decide +kernel
theorem dX10_numberAt_12 : decode cX10_numberAt 12 = .ok (.aload_n 0, 1) := by decide +kernel
theorem dX10_numberAt_13 : decode cX10_numberAt 13 = .ok (.getfield 13, 3) := by decide +kernel
theorem dX10_numberAt_16 : decode cX10_numberAt 16 = .ok (.iload_n 3, 1) := by decide +kernel
theorem dX10_numberAt_17 : decode cX10_numberAt 17 = .ok (.iaload, 1) := by decide +kernel
theorem dX10_numberAt_18 : decode cX10_numberAt 18 = .ok (.bipush 48, 2) := by decide +kernel
theorem dX10_numberAt_20 : decode cX10_numberAt 20 = .ok (.bipush 57, 2) := by decide +kernel
theorem dX10_numberAt_22 : decode cX10_numberAt 22 = .ok (.invokestatic 34, 3) := by decide +kernel
theorem dX10_numberAt_25 : decode cX10_numberAt 25 = .ok (.ifCond .eq 24, 3) := by decide +kernel
theorem dX10_numberAt_28 : decode cX10_numberAt 28 = .ok (.bipush 10, 2) := by decide +kernel
theorem dX10_numberAt_30 : decode cX10_numberAt 30 = .ok (.iload_n 2, 1) := by decide +kernel
theorem dX10_numberAt_31 : decode cX10_numberAt 31 = .ok (.imul, 1) := by decide +kernel
theorem dX10_numberAt_32 : decode cX10_numberAt 32 = .ok (.aload_n 0, 1) := by decide +kernel
theorem dX10_numberAt_33 : decode cX10_numberAt 33 = .ok (.getfield 13, 3) := by decide +kernel
theorem dX10_numberAt_36 : decode cX10_numberAt 36 = .ok (.iload_n 3, 1) := by decide +kernel
theorem dX10_numberAt_37 : decode cX10_numberAt 37 = .ok (.iaload, 1) := by decide +kernel
theorem dX10_numberAt_38 : decode cX10_numberAt 38 = .ok (.iadd, 1) := by decide +kernel
theorem dX10_numberAt_39 : decode cX10_numberAt 39 = .ok (.bipush 48, 2) := by decide +kernel
theorem dX10_numberAt_41 : decode cX10_numberAt 41 = .ok (.isub, 1) := by decide +kernel
theorem dX10_numberAt_42 : decode cX10_numberAt 42 = .ok (.istore_n 2, 1) := by decide +kernel
theorem dX10_numberAt_43 : decode cX10_numberAt 43 = .ok (.iinc 3 1, 3) := by decide +kernel
theorem dX10_numberAt_46 : decode cX10_numberAt 46 = .ok (.goto (-42), 3) := by decide +kernel
theorem dX10_numberAt_49 : decode cX10_numberAt 49 = .ok (.iload_n 2, 1) := by decide +kernel
theorem dX10_numberAt_50 : decode cX10_numberAt 50 = .ok (.ireturn, 1) := by decide +kernel
set_option maxRecDepth 100000 in
set_option maxHeartbeats 4000000 in
theorem c_X10_numberAt (l : Launch) (D : va_G) (cas : Nat → ClassId) (ad : Nat → Nat) (hi : zInj ad) {v1 : Int}  {r : Int} {M M' : Mem} (hf : f_X10_numberAt v1 M = some (r, M')) : zMi l D cas ad yX10_numberAt cX10_numberAt 4 (some .int) 1 22 [.ref (ad 215), .int (zI v1)] M r M' := by
  refine zbody (by decide) (Nat.le_of_ble_eq_true rfl) hi ?_
  intro p e s m args below meth c X hr hk0
  have X : zX p s m args c cX10_numberAt "ShardTrailsModel" 4 D cas ad (zA ad) := X
  have hB49 : ∀ (v2 : Int) (M : Mem), f_X10_numberAt_b49 v2 M = some (r, M') → WW p l e (zrm 1 22) s m args below meth c D cas ad (zA ad) 4 0 0 (MQ below (zQi D cas ad r M') args s 0 0 (zA ad)) 49 [(2, .int (zI v2))] [] M := by
    intro v2 M hf
    unfold f_X10_numberAt_b49 at hf
    refine R_iload_n X 0 dX10_numberAt_49 rfl rfl ?_
    exact R_iret X hr hk0 dX10_numberAt_50 hf
  have hB4 : ∀ (n : Nat) (v2 v3 : Int) (M : Mem), f_X10_numberAt_b4 n v2 v3 M = some (r, M') → WW p l e (zrm 1 22) s m args below meth c D cas ad (zA ad) 4 0 0 (MQ below (zQi D cas ad r M') args s 0 0 (zA ad)) 4 [(0, .ref (ad 215)), (2, .int (zI v2)), (3, .int (zI v3))] [] M := by
    intro n
    induction n with
    | zero => intro v2 v3 M hf; exact absurd hf (by unfold f_X10_numberAt_b4; simp)
    | succ n ih =>
      intro v2 v3 M hf
      unfold f_X10_numberAt_b4 at hf
      refine R_iload_n X 2 dX10_numberAt_4 rfl rfl ?_
      refine R_aload_n X 0 dX10_numberAt_5 rfl rfl ?_
      refine R_getI X (j := 4) lc_215 rfl inX10 (by decide) rfl rfl rfl wf_X10_156 dX10_numberAt_6 ?_
      obtain ⟨hq1, hf⟩ := zgrd hf
      obtain ⟨hq2, hf⟩ := zgrd hf
      refine R_icmp_ge X 49 ⟨hq1, hq2⟩ dX10_numberAt_9 (by decide) (fun c10 => ?_) (fun c10 => ?_)
      · have hf := zthen hf c10
        exact R_sub [1] rfl (hB49 v2 M hf)
      · have hf := zelse hf c10
        refine R_aload_n X 0 dX10_numberAt_12 rfl rfl ?_
        refine R_getR X (j := 3) 2 217 lc_215 rfl inX10 (by decide) rfl rfl (by decide) rfl rfl wf_X10_13 dX10_numberAt_13 ?_
        refine R_iload_n X 2 dX10_numberAt_16 rfl rfl ?_
        obtain ⟨hq3, hf⟩ := zgrd hf
        refine R_iald X lc_217 hq3 dX10_numberAt_17 ?_
        refine R_bipush X dX10_numberAt_18 (by decide +kernel) ?_
        refine R_bipush X dX10_numberAt_20 (by decide +kernel) ?_
        obtain ⟨r4, M5, hc6, hf⟩ := zbnd_some hf
        refine R_callSi X (av := [.int (zI (M 217 v3.toNat)), .int (zI 48), .int (zI 57)]) (rest := []) (c_X10_in l D cas ad hi hc6) zy_X10_in wm_X10_34 rfl rfl ⟨Nat.le_of_ble_eq_true rfl, Nat.le_of_ble_eq_true rfl⟩ ⟨Nat.le_refl _, Nat.le_refl _⟩ (Nat.le_of_ble_eq_true rfl) dX10_numberAt_22 ?_
        obtain ⟨hq7, hf⟩ := zgrd hf
        refine R_if_eq X 49 hq7 dX10_numberAt_25 (by decide) (fun c9 => ?_) (fun c9 => ?_)
        · have hf := zthen hf c9
          exact R_sub [1] rfl (hB49 v2 M5 hf)
        · have hf := zelse hf c9
          refine R_bipush X dX10_numberAt_28 (by decide +kernel) ?_
          refine R_iload_n X 1 dX10_numberAt_30 rfl rfl ?_
          refine R_imul X dX10_numberAt_31 ?_
          refine R_aload_n X 0 dX10_numberAt_32 rfl rfl ?_
          refine R_getR X (j := 3) 2 217 lc_215 rfl inX10 (by decide) rfl rfl (by decide) rfl rfl wf_X10_13 dX10_numberAt_33 ?_
          refine R_iload_n X 2 dX10_numberAt_36 rfl rfl ?_
          refine R_iald X lc_217 hq3 dX10_numberAt_37 ?_
          refine R_iadd X dX10_numberAt_38 ?_
          refine R_bipush X dX10_numberAt_39 (by decide +kernel) ?_
          refine R_isub X dX10_numberAt_41 ?_
          obtain ⟨x8, ex8, hf⟩ := zlt_some hf
          refine R_istore_nX X (lv' := [(2, .int (zI x8)), (0, .ref (ad 215)), (3, .int (zI v3))]) ex8 dX10_numberAt_42 rfl (by decide) rfl ?_
          refine R_iinc X (lv' := [(3, .int (zI (v3 + 1))), (2, .int (zI x8)), (0, .ref (ad 215))]) 2 dX10_numberAt_43 rfl (by decide) rfl ?_
          refine R_goto X 4 dX10_numberAt_46 (by decide) ?_
          exact R_sub [2, 1, 0] rfl (ih x8 (v3 + 1) M5 hf)
  unfold f_X10_numberAt at hf
  refine (?_ : WW p l e (zrm 1 22) s m args below meth c D cas ad (zA ad) 4 0 0 (MQ below (zQi D cas ad r M') args s 0 0 (zA ad)) 0 [(0, .ref (ad 215)), (1, .int (zI v1))] [] M)
  refine R_iconst X dX10_numberAt_0 ?_
  refine R_istore_n X (lv' := [(2, .int (zI 0)), (0, .ref (ad 215)), (1, .int (zI v1))]) dX10_numberAt_1 rfl (by decide) rfl ?_
  refine R_iload_n X 2 dX10_numberAt_2 rfl rfl ?_
  refine R_istore_n X (lv' := [(3, .int (zI v1)), (2, .int (zI 0)), (0, .ref (ad 215)), (1, .int (zI v1))]) dX10_numberAt_3 rfl (by decide) rfl ?_
  exact R_sub [2, 1, 0] rfl (hB4 100000 0 v1 M hf)
theorem dX10_areKnown_0 : decode cX10_areKnown 0 = .ok (.iconst 1, 1) := by decide +kernel
theorem dX10_areKnown_1 : decode cX10_areKnown 1 = .ok (.istore_n 1, 1) := by decide +kernel
theorem dX10_areKnown_2 : decode cX10_areKnown 2 = .ok (.iconst 0, 1) := by decide +kernel
theorem dX10_areKnown_3 : decode cX10_areKnown 3 = .ok (.istore_n 2, 1) := by decide +kernel
theorem dX10_areKnown_4 : decode cX10_areKnown 4 = .ok (.iload_n 2, 1) := by decide +kernel
theorem dX10_areKnown_5 : decode cX10_areKnown 5 = .ok (.aload_n 0, 1) := by decide +kernel
theorem dX10_areKnown_6 : decode cX10_areKnown 6 = .ok (.getfield 156, 3) := by decide +kernel
theorem dX10_areKnown_9 : decode cX10_areKnown 9 = .ok (.if_icmp .ge 51, 3) := by decide +kernel
theorem dX10_areKnown_12 : decode cX10_areKnown 12 = .ok (.iload_n 1, 1) := by decide +kernel
theorem dX10_areKnown_13 : decode cX10_areKnown 13 = .ok (.ifCond .eq 36, 3) := by decide +kernel
theorem dX10_areKnown_16 : decode cX10_areKnown 16 = .ok (.aload_n 0, 1) := by decide +kernel
theorem dX10_areKnown_17 : decode cX10_areKnown 17 = .ok (.aload_n 0, 1) := by decide +kernel
theorem dX10_areKnown_18 : decode cX10_areKnown 18 = .ok (.getfield 13, 3) := by decide +kernel
theorem dX10_areKnown_21 : decode cX10_areKnown 21 = .ok (.iload_n 2, 1) := by decide +kernel
theorem dX10_areKnown_22 : decode cX10_areKnown 22 = .ok (.iaload, 1) := by decide +kernel
theorem dX10_areKnown_23 : decode cX10_areKnown 23 = .ok (.bipush 48, 2) := by decide +kernel
theorem dX10_areKnown_25 : decode cX10_areKnown 25 = .ok (.isub, 1) := by decide +kernel
theorem dX10_areKnown_26 : decode cX10_areKnown 26 = .ok (.invokevirtual 147, 3) := by decide +kernel
theorem dX10_areKnown_29 : decode cX10_areKnown 29 = .ok (.ifCond .eq 20, 3) := by decide +kernel
theorem dX10_areKnown_32 : decode cX10_areKnown 32 = .ok (.aload_n 0, 1) := by decide +kernel
theorem dX10_areKnown_33 : decode cX10_areKnown 33 = .ok (.iload_n 2, 1) := by decide +kernel
theorem dX10_areKnown_34 : decode cX10_areKnown 34 = .ok (.iconst 2, 1) := by decide +kernel
theorem dX10_areKnown_35 : decode cX10_areKnown 35 = .ok (.iadd, 1) := by decide +kernel
theorem dX10_areKnown_36 : decode cX10_areKnown 36 = .ok (.invokevirtual 174, 3) := by decide +kernel
theorem dX10_areKnown_39 : decode cX10_areKnown 39 = .ok (.invokestatic 150, 3) := by decide +kernel
theorem dX10_areKnown_42 : decode cX10_areKnown 42 = .ok (.ifCond .eq 7, 3) := by decide +kernel
theorem dX10_areKnown_45 : decode cX10_areKnown 45 = .ok (.iconst 1, 1) := by decide +kernel
theorem dX10_areKnown_46 : decode cX10_areKnown 46 = .ok (.goto 4, 3) := by decide +kernel
theorem dX10_areKnown_49 : decode cX10_areKnown 49 = .ok (.iconst 0, 1) := by decide +kernel
theorem dX10_areKnown_50 : decode cX10_areKnown 50 = .ok (.istore_n 1, 1) := by decide +kernel
theorem dX10_areKnown_51 : decode cX10_areKnown 51 = .ok (.aload_n 0, 1) := by decide +kernel
theorem dX10_areKnown_52 : decode cX10_areKnown 52 = .ok (.iload_n 2, 1) := by decide +kernel
theorem dX10_areKnown_53 : decode cX10_areKnown 53 = .ok (.invokevirtual 177, 3) := by decide +kernel
theorem dX10_areKnown_56 : decode cX10_areKnown 56 = .ok (.istore_n 2, 1) := by decide +kernel
theorem dX10_areKnown_57 : decode cX10_areKnown 57 = .ok (.goto (-53), 3) := by decide +kernel
theorem dX10_areKnown_60 : decode cX10_areKnown 60 = .ok (.iload_n 1, 1) := by decide +kernel
theorem dX10_areKnown_61 : decode cX10_areKnown 61 = .ok (.ireturn, 1) := by decide +kernel
set_option maxRecDepth 100000 in
set_option maxHeartbeats 4000000 in
theorem c_X10_areKnown (l : Launch) (D : va_G) (cas : Nat → ClassId) (ad : Nat → Nat) (hi : zInj ad)   {r : Int} {M M' : Mem} (hf : f_X10_areKnown M = some (r, M')) : zMi l D cas ad yX10_areKnown cX10_areKnown 3 (some .boolean) 2 45 [.ref (ad 215)] M r M' := by
  refine zbody (by decide) (Nat.le_of_ble_eq_true rfl) hi ?_
  intro p e s m args below meth c X hr hk0
  have X : zX p s m args c cX10_areKnown "ShardTrailsModel" 3 D cas ad (zA ad) := X
  have hB50 : ∀ (g4 : Int → Int → Mem → Option (Int × Mem)) (hg4 : ∀ (v1 v2 : Int) (M : Mem), g4 v1 v2 M = some (r, M') → WW p l e (zrm 2 45) s m args below meth c D cas ad (zA ad) 3 0 0 (MQ below (zQi D cas ad r M') args s 0 0 (zA ad)) 4 [(0, .ref (ad 215)), (1, .int (zI v1)), (2, .int (zI v2))] [] M) (v2 t1 : Int) (M : Mem), f_X10_areKnown_b50 g4 v2 t1 M = some (r, M') → WW p l e (zrm 2 45) s m args below meth c D cas ad (zA ad) 3 0 0 (MQ below (zQi D cas ad r M') args s 0 0 (zA ad)) 50 [(0, .ref (ad 215)), (2, .int (zI v2))] [.int (zI t1)] M := by
    intro g4 hg4 v2 t1 M hf
    unfold f_X10_areKnown_b50 at hf
    refine R_istore_n X (lv' := [(1, .int (zI t1)), (0, .ref (ad 215)), (2, .int (zI v2))]) dX10_areKnown_50 rfl (by decide) rfl ?_
    refine R_aload_n X 1 dX10_areKnown_51 rfl rfl ?_
    refine R_iload_n X 2 dX10_areKnown_52 rfl rfl ?_
    obtain ⟨r21, M22, hc23, hf⟩ := zbnd_some hf
    refine R_callVi X (av := [.int (zI v2)]) (rest := []) (c_X10_nextBehind l D cas ad hi hc23) zy_X10_nextBehind lc_215 rfl rfl wm_X10_177 rfl rfl ⟨Nat.le_of_ble_eq_true rfl, Nat.le_of_ble_eq_true rfl⟩ ⟨Nat.le_refl _, Nat.le_refl _⟩ (Nat.le_of_ble_eq_true rfl) dX10_areKnown_53 ?_
    refine R_istore_n X (lv' := [(2, .int (zI r21)), (1, .int (zI t1)), (0, .ref (ad 215))]) dX10_areKnown_56 rfl (by decide) rfl ?_
    refine R_goto X 4 dX10_areKnown_57 (by decide) ?_
    exact R_sub [2, 1, 0] rfl (hg4 t1 r21 M22 hf)
  have hB49 : ∀ (g4 : Int → Int → Mem → Option (Int × Mem)) (hg4 : ∀ (v1 v2 : Int) (M : Mem), g4 v1 v2 M = some (r, M') → WW p l e (zrm 2 45) s m args below meth c D cas ad (zA ad) 3 0 0 (MQ below (zQi D cas ad r M') args s 0 0 (zA ad)) 4 [(0, .ref (ad 215)), (1, .int (zI v1)), (2, .int (zI v2))] [] M) (v2 : Int) (M : Mem), f_X10_areKnown_b49 g4 v2 M = some (r, M') → WW p l e (zrm 2 45) s m args below meth c D cas ad (zA ad) 3 0 0 (MQ below (zQi D cas ad r M') args s 0 0 (zA ad)) 49 [(0, .ref (ad 215)), (2, .int (zI v2))] [] M := by
    intro g4 hg4 v2 M hf
    unfold f_X10_areKnown_b49 at hf
    refine R_iconst X dX10_areKnown_49 ?_
    exact R_sub [0, 1] rfl (hB50 g4 hg4 v2 0 M hf)
  have hB4 : ∀ (n : Nat) (v1 v2 : Int) (M : Mem), f_X10_areKnown_b4 n v1 v2 M = some (r, M') → WW p l e (zrm 2 45) s m args below meth c D cas ad (zA ad) 3 0 0 (MQ below (zQi D cas ad r M') args s 0 0 (zA ad)) 4 [(0, .ref (ad 215)), (1, .int (zI v1)), (2, .int (zI v2))] [] M := by
    intro n
    induction n with
    | zero => intro v1 v2 M hf; exact absurd hf (by unfold f_X10_areKnown_b4; simp)
    | succ n ih =>
      intro v1 v2 M hf
      unfold f_X10_areKnown_b4 at hf
      refine R_iload_n X 2 dX10_areKnown_4 rfl rfl ?_
      refine R_aload_n X 0 dX10_areKnown_5 rfl rfl ?_
      refine R_getI X (j := 4) lc_215 rfl inX10 (by decide) rfl rfl rfl wf_X10_156 dX10_areKnown_6 ?_
      obtain ⟨hq1, hf⟩ := zgrd hf
      obtain ⟨hq2, hf⟩ := zgrd hf
      refine R_icmp_ge X 60 ⟨hq1, hq2⟩ dX10_areKnown_9 (by decide) (fun c20 => ?_) (fun c20 => ?_)
      · have hf := zthen hf c20
        refine R_iload_n X 1 dX10_areKnown_60 rfl rfl ?_
        obtain ⟨hq3, hf⟩ := zgrd hf
        exact R_zret X hq3 hr hk0 dX10_areKnown_61 hf
      · have hf := zelse hf c20
        refine R_iload_n X 1 dX10_areKnown_12 rfl rfl ?_
        obtain ⟨hq4, hf⟩ := zgrd hf
        refine R_if_eq X 49 hq4 dX10_areKnown_13 (by decide) (fun c19 => ?_) (fun c19 => ?_)
        · have hf := zthen hf c19
          exact R_sub [0, 2] rfl (hB49 (f_X10_areKnown_b4 n) ih v2 M hf)
        · have hf := zelse hf c19
          refine R_aload_n X 0 dX10_areKnown_16 rfl rfl ?_
          refine R_aload_n X 0 dX10_areKnown_17 rfl rfl ?_
          refine R_getR X (j := 3) 2 217 lc_215 rfl inX10 (by decide) rfl rfl (by decide) rfl rfl wf_X10_13 dX10_areKnown_18 ?_
          refine R_iload_n X 2 dX10_areKnown_21 rfl rfl ?_
          obtain ⟨hq5, hf⟩ := zgrd hf
          refine R_iald X lc_217 hq5 dX10_areKnown_22 ?_
          refine R_bipush X dX10_areKnown_23 (by decide +kernel) ?_
          refine R_isub X dX10_areKnown_25 ?_
          obtain ⟨r6, M7, hc8, hf⟩ := zbnd_some hf
          refine R_callVi X (av := [.int (zI ((M 217 v2.toNat) - 48))]) (rest := []) (c_X10_isReader l D cas ad hi hc8) zy_X10_isReader lc_215 rfl rfl wm_X10_147 rfl rfl ⟨Nat.le_of_ble_eq_true rfl, Nat.le_of_ble_eq_true rfl⟩ ⟨Nat.le_refl _, Nat.le_refl _⟩ (Nat.le_of_ble_eq_true rfl) dX10_areKnown_26 ?_
          obtain ⟨hq9, hf⟩ := zgrd hf
          refine R_if_eq X 49 hq9 dX10_areKnown_29 (by decide) (fun c18 => ?_) (fun c18 => ?_)
          · have hf := zthen hf c18
            exact R_sub [0, 2] rfl (hB49 (f_X10_areKnown_b4 n) ih v2 M7 hf)
          · have hf := zelse hf c18
            refine R_aload_n X 0 dX10_areKnown_32 rfl rfl ?_
            refine R_iload_n X 2 dX10_areKnown_33 rfl rfl ?_
            refine R_iconst X dX10_areKnown_34 ?_
            refine R_iadd X dX10_areKnown_35 ?_
            obtain ⟨r10, M11, hc12, hf⟩ := zbnd_some hf
            refine R_callVi X (av := [.int (zI (v2 + 2))]) (rest := []) (c_X10_numberAt l D cas ad hi hc12) zy_X10_numberAt lc_215 rfl rfl wm_X10_174 rfl rfl ⟨Nat.le_of_ble_eq_true rfl, Nat.le_of_ble_eq_true rfl⟩ ⟨Nat.le_refl _, Nat.le_refl _⟩ (Nat.le_of_ble_eq_true rfl) dX10_areKnown_36 ?_
            obtain ⟨r13, M14, hc15, hf⟩ := zbnd_some hf
            refine R_callSi X (av := [.int (zI r10)]) (rest := []) (c_X10_isKey l D cas ad hi hc15) zy_X10_isKey wm_X10_150 rfl rfl ⟨Nat.le_of_ble_eq_true rfl, Nat.le_of_ble_eq_true rfl⟩ ⟨Nat.le_refl _, Nat.le_refl _⟩ (Nat.le_of_ble_eq_true rfl) dX10_areKnown_39 ?_
            obtain ⟨hq16, hf⟩ := zgrd hf
            refine R_if_eq X 49 hq16 dX10_areKnown_42 (by decide) (fun c17 => ?_) (fun c17 => ?_)
            · have hf := zthen hf c17
              exact R_sub [0, 2] rfl (hB49 (f_X10_areKnown_b4 n) ih v2 M14 hf)
            · have hf := zelse hf c17
              refine R_iconst X dX10_areKnown_45 ?_
              refine R_goto X 50 dX10_areKnown_46 (by decide) ?_
              exact R_sub [0, 2] rfl (hB50 (f_X10_areKnown_b4 n) ih v2 1 M14 hf)
  unfold f_X10_areKnown at hf
  refine (?_ : WW p l e (zrm 2 45) s m args below meth c D cas ad (zA ad) 3 0 0 (MQ below (zQi D cas ad r M') args s 0 0 (zA ad)) 0 [(0, .ref (ad 215))] [] M)
  refine R_iconst X dX10_areKnown_0 ?_
  refine R_istore_n X (lv' := [(1, .int (zI 1)), (0, .ref (ad 215))]) dX10_areKnown_1 rfl (by decide) rfl ?_
  refine R_iconst X dX10_areKnown_2 ?_
  refine R_istore_n X (lv' := [(2, .int (zI 0)), (1, .int (zI 1)), (0, .ref (ad 215))]) dX10_areKnown_3 rfl (by decide) rfl ?_
  exact R_sub [2, 1, 0] rfl (hB4 100000 1 0 M hf)
theorem dX10_at_0 : decode cX10_at 0 = .ok (.iload_n 0, 1) := by decide +kernel
theorem dX10_at_1 : decode cX10_at 1 = .ok (.bipush 16, 2) := by decide +kernel
theorem dX10_at_3 : decode cX10_at 3 = .ok (.iload_n 1, 1) := by decide +kernel
theorem dX10_at_4 : decode cX10_at 4 = .ok (.imul, 1) := by decide +kernel
theorem dX10_at_5 : decode cX10_at 5 = .ok (.iadd, 1) := by decide +kernel
theorem dX10_at_6 : decode cX10_at 6 = .ok (.iload_n 2, 1) := by decide +kernel
theorem dX10_at_7 : decode cX10_at 7 = .ok (.iadd, 1) := by decide +kernel
theorem dX10_at_8 : decode cX10_at 8 = .ok (.ireturn, 1) := by decide +kernel
set_option maxRecDepth 100000 in
set_option maxHeartbeats 4000000 in
theorem c_X10_at (l : Launch) (D : va_G) (cas : Nat → ClassId) (ad : Nat → Nat) (hi : zInj ad) {v0 : Int} {v1 : Int} {v2 : Int}  {r : Int} {M M' : Mem} (hf : f_X10_at v0 v1 v2 M = some (r, M')) : zMi l D cas ad yX10_at cX10_at 3 (some .int) 0 0 [.int (zI v0), .int (zI v1), .int (zI v2)] M r M' := by
  refine zbody (by decide) (Nat.le_of_ble_eq_true rfl) hi ?_
  intro p e s m args below meth c X hr hk0
  have X : zX p s m args c cX10_at "ShardTrailsModel" 3 D cas ad (zA ad) := X
  unfold f_X10_at at hf
  refine (?_ : WW p l e (zrm 0 0) s m args below meth c D cas ad (zA ad) 3 0 0 (MQ below (zQi D cas ad r M') args s 0 0 (zA ad)) 0 [(0, .int (zI v0)), (1, .int (zI v1)), (2, .int (zI v2))] [] M)
  refine R_iload_n X 0 dX10_at_0 rfl rfl ?_
  refine R_bipush X dX10_at_1 (by decide +kernel) ?_
  refine R_iload_n X 1 dX10_at_3 rfl rfl ?_
  refine R_imul X dX10_at_4 ?_
  refine R_iadd X dX10_at_5 ?_
  refine R_iload_n X 2 dX10_at_6 rfl rfl ?_
  refine R_iadd X dX10_at_7 ?_
  exact R_iret X hr hk0 dX10_at_8 hf
theorem dX10_begin_0 : decode cX10_begin 0 = .ok (.aload_n 0, 1) := by decide +kernel
theorem dX10_begin_1 : decode cX10_begin 1 = .ok (.iload_n 1, 1) := by decide +kernel
theorem dX10_begin_2 : decode cX10_begin 2 = .ok (.putfield 159, 3) := by decide +kernel
theorem dX10_begin_5 : decode cX10_begin 5 = .ok (.aload_n 0, 1) := by decide +kernel
theorem dX10_begin_6 : decode cX10_begin 6 = .ok (.iconst 0, 1) := by decide +kernel
theorem dX10_begin_7 : decode cX10_begin 7 = .ok (.putfield 162, 3) := by decide +kernel
theorem dX10_begin_10 : decode cX10_begin 10 = .ok (.aload_n 0, 1) := by decide +kernel
theorem dX10_begin_11 : decode cX10_begin 11 = .ok (.iconst 0, 1) := by decide +kernel
theorem dX10_begin_12 : decode cX10_begin 12 = .ok (.putfield 165, 3) := by decide +kernel
theorem dX10_begin_15 : decode cX10_begin 15 = .ok (.return_, 1) := by decide +kernel
set_option maxRecDepth 100000 in
set_option maxHeartbeats 4000000 in
theorem c_X10_begin (l : Launch) (D : va_G) (cas : Nat → ClassId) (ad : Nat → Nat) (hi : zInj ad) {v1 : Int}  {r : Int} {M M' : Mem} (hf : f_X10_begin v1 M = some (r, M')) : zMv l D cas ad yX10_begin cX10_begin 2 0 0 [.ref (ad 215), .int (zI v1)] M M' := by
  refine zbody (by decide) (Nat.le_of_ble_eq_true rfl) hi ?_
  intro p e s m args below meth c X hr hk0
  have X : zX p s m args c cX10_begin "ShardTrailsModel" 2 D cas ad (zA ad) := X
  unfold f_X10_begin at hf
  refine (?_ : WW p l e (zrm 0 0) s m args below meth c D cas ad (zA ad) 2 0 0 (MQ below (zQv D cas ad M') args s 0 0 (zA ad)) 0 [(0, .ref (ad 215)), (1, .int (zI v1))] [] M)
  refine R_aload_n X 0 dX10_begin_0 rfl rfl ?_
  refine R_iload_n X 1 dX10_begin_1 rfl rfl ?_
  obtain ⟨M1, eM1, hf⟩ := zlt_some hf
  refine R_put X (j := 12) lc_215 rfl inX10 tyX10_ok nmX10 (by decide) rfl rfl rfl wf_X10_159 rfl (by decide +kernel) (z_nI _) (z_fI _) dX10_begin_2 ?_
  refine R_mem eM1 ?_
  refine R_aload_n X 0 dX10_begin_5 rfl rfl ?_
  refine R_iconst X dX10_begin_6 ?_
  obtain ⟨M2, eM2, hf⟩ := zlt_some hf
  refine R_put X (j := 13) lc_215 rfl inX10 tyX10_ok nmX10 (by decide) rfl rfl rfl wf_X10_162 rfl (by decide +kernel) (z_nI _) (z_fI _) dX10_begin_7 ?_
  refine R_mem eM2 ?_
  refine R_aload_n X 0 dX10_begin_10 rfl rfl ?_
  refine R_iconst X dX10_begin_11 ?_
  obtain ⟨M3, eM3, hf⟩ := zlt_some hf
  refine R_put X (j := 14) lc_215 rfl inX10 tyX10_ok nmX10 (by decide) rfl rfl rfl wf_X10_165 rfl (by decide +kernel) (z_nZ (Or.inl rfl)) (z_fZ (Or.inl rfl)) dX10_begin_12 ?_
  refine R_mem eM3 ?_
  exact R_vret X hr hk0 dX10_begin_15 hf
theorem dX10_bits_0 : decode cX10_bits 0 = .ok (.iconst 0, 1) := by decide +kernel
theorem dX10_bits_1 : decode cX10_bits 1 = .ok (.istore_n 1, 1) := by decide +kernel
theorem dX10_bits_2 : decode cX10_bits 2 = .ok (.iconst 0, 1) := by decide +kernel
theorem dX10_bits_3 : decode cX10_bits 3 = .ok (.istore_n 2, 1) := by decide +kernel
theorem dX10_bits_4 : decode cX10_bits 4 = .ok (.iload_n 2, 1) := by decide +kernel
theorem dX10_bits_5 : decode cX10_bits 5 = .ok (.bipush 8, 2) := by decide +kernel
theorem dX10_bits_7 : decode cX10_bits 7 = .ok (.if_icmp .ge 17, 3) := by decide +kernel
theorem dX10_bits_10 : decode cX10_bits 10 = .ok (.iload_n 1, 1) := by decide +kernel
theorem dX10_bits_11 : decode cX10_bits 11 = .ok (.iload_n 0, 1) := by decide +kernel
theorem dX10_bits_12 : decode cX10_bits 12 = .ok (.iload_n 2, 1) := by decide +kernel
theorem dX10_bits_13 : decode cX10_bits 13 = .ok (.ishr, 1) := by decide +kernel
theorem dX10_bits_14 : decode cX10_bits 14 = .ok (.iconst 1, 1) := by decide +kernel
theorem dX10_bits_15 : decode cX10_bits 15 = .ok (.iand, 1) := by decide +kernel
theorem dX10_bits_16 : decode cX10_bits 16 = .ok (.iadd, 1) := by decide +kernel
theorem dX10_bits_17 : decode cX10_bits 17 = .ok (.istore_n 1, 1) := by decide +kernel
theorem dX10_bits_18 : decode cX10_bits 18 = .ok (.iinc 2 1, 3) := by decide +kernel
theorem dX10_bits_21 : decode cX10_bits 21 = .ok (.goto (-17), 3) := by decide +kernel
theorem dX10_bits_24 : decode cX10_bits 24 = .ok (.iload_n 1, 1) := by decide +kernel
theorem dX10_bits_25 : decode cX10_bits 25 = .ok (.ireturn, 1) := by decide +kernel
set_option maxRecDepth 100000 in
set_option maxHeartbeats 4000000 in
theorem c_X10_bits (l : Launch) (D : va_G) (cas : Nat → ClassId) (ad : Nat → Nat) (hi : zInj ad) {v0 : Int}  {r : Int} {M M' : Mem} (hf : f_X10_bits v0 M = some (r, M')) : zMi l D cas ad yX10_bits cX10_bits 3 (some .int) 0 0 [.int (zI v0)] M r M' := by
  refine zbody (by decide) (Nat.le_of_ble_eq_true rfl) hi ?_
  intro p e s m args below meth c X hr hk0
  have X : zX p s m args c cX10_bits "ShardTrailsModel" 3 D cas ad (zA ad) := X
  have hB4 : ∀ (n : Nat) (v0 v1 v2 : Int) (M : Mem), f_X10_bits_b4 n v0 v1 v2 M = some (r, M') → WW p l e (zrm 0 0) s m args below meth c D cas ad (zA ad) 3 0 0 (MQ below (zQi D cas ad r M') args s 0 0 (zA ad)) 4 [(0, .int (zI v0)), (1, .int (zI v1)), (2, .int (zI v2))] [] M := by
    intro n
    induction n with
    | zero => intro v0 v1 v2 M hf; exact absurd hf (by unfold f_X10_bits_b4; simp)
    | succ n ih =>
      intro v0 v1 v2 M hf
      unfold f_X10_bits_b4 at hf
      refine R_iload_n X 2 dX10_bits_4 rfl rfl ?_
      refine R_bipush X dX10_bits_5 (by decide +kernel) ?_
      obtain ⟨hq1, hf⟩ := zgrd hf
      refine R_icmp_ge X 24 ⟨hq1, (by decide)⟩ dX10_bits_7 (by decide) (fun c3 => ?_) (fun c3 => ?_)
      · have hf := zthen hf c3
        refine R_iload_n X 1 dX10_bits_24 rfl rfl ?_
        exact R_iret X hr hk0 dX10_bits_25 hf
      · have hf := zelse hf c3
        refine R_iload_n X 1 dX10_bits_10 rfl rfl ?_
        refine R_iload_n X 0 dX10_bits_11 rfl rfl ?_
        refine R_iload_n X 2 dX10_bits_12 rfl rfl ?_
        refine R_ishr X dX10_bits_13 ?_
        refine R_iconst X dX10_bits_14 ?_
        refine R_iand X dX10_bits_15 ?_
        refine R_iadd X dX10_bits_16 ?_
        obtain ⟨x2, ex2, hf⟩ := zlt_some hf
        refine R_istore_nX X (lv' := [(1, .int (zI x2)), (0, .int (zI v0)), (2, .int (zI v2))]) ex2 dX10_bits_17 rfl (by decide) rfl ?_
        refine R_iinc X (lv' := [(2, .int (zI (v2 + 1))), (1, .int (zI x2)), (0, .int (zI v0))]) 2 dX10_bits_18 rfl (by decide) rfl ?_
        refine R_goto X 4 dX10_bits_21 (by decide) ?_
        exact R_sub [2, 1, 0] rfl (ih v0 x2 (v2 + 1) M hf)
  unfold f_X10_bits at hf
  refine (?_ : WW p l e (zrm 0 0) s m args below meth c D cas ad (zA ad) 3 0 0 (MQ below (zQi D cas ad r M') args s 0 0 (zA ad)) 0 [(0, .int (zI v0))] [] M)
  refine R_iconst X dX10_bits_0 ?_
  refine R_istore_n X (lv' := [(1, .int (zI 0)), (0, .int (zI v0))]) dX10_bits_1 rfl (by decide) rfl ?_
  refine R_iconst X dX10_bits_2 ?_
  refine R_istore_n X (lv' := [(2, .int (zI 0)), (1, .int (zI 0)), (0, .int (zI v0))]) dX10_bits_3 rfl (by decide) rfl ?_
  exact R_sub [2, 1, 0] rfl (hB4 100000 v0 0 0 M hf)
theorem dX10_clearText_0 : decode cX10_clearText 0 = .ok (.aload_n 0, 1) := by decide +kernel
theorem dX10_clearText_1 : decode cX10_clearText 1 = .ok (.getfield 156, 3) := by decide +kernel
theorem dX10_clearText_4 : decode cX10_clearText 4 = .ok (.istore_n 1, 1) := by decide +kernel
theorem dX10_clearText_5 : decode cX10_clearText 5 = .ok (.aload_n 0, 1) := by decide +kernel
theorem dX10_clearText_6 : decode cX10_clearText 6 = .ok (.iconst 0, 1) := by decide +kernel
theorem dX10_clearText_7 : decode cX10_clearText 7 = .ok (.putfield 156, 3) := by decide +kernel
theorem dX10_clearText_10 : decode cX10_clearText 10 = .ok (.iload_n 1, 1) := by decide +kernel
theorem dX10_clearText_11 : decode cX10_clearText 11 = .ok (.ireturn, 1) := by decide +kernel
set_option maxRecDepth 100000 in
set_option maxHeartbeats 4000000 in
theorem c_X10_clearText (l : Launch) (D : va_G) (cas : Nat → ClassId) (ad : Nat → Nat) (hi : zInj ad)   {r : Int} {M M' : Mem} (hf : f_X10_clearText M = some (r, M')) : zMi l D cas ad yX10_clearText cX10_clearText 2 (some .int) 0 0 [.ref (ad 215)] M r M' := by
  refine zbody (by decide) (Nat.le_of_ble_eq_true rfl) hi ?_
  intro p e s m args below meth c X hr hk0
  have X : zX p s m args c cX10_clearText "ShardTrailsModel" 2 D cas ad (zA ad) := X
  unfold f_X10_clearText at hf
  refine (?_ : WW p l e (zrm 0 0) s m args below meth c D cas ad (zA ad) 2 0 0 (MQ below (zQi D cas ad r M') args s 0 0 (zA ad)) 0 [(0, .ref (ad 215))] [] M)
  refine R_aload_n X 0 dX10_clearText_0 rfl rfl ?_
  refine R_getI X (j := 4) lc_215 rfl inX10 (by decide) rfl rfl rfl wf_X10_156 dX10_clearText_1 ?_
  obtain ⟨x1, ex1, hf⟩ := zlt_some hf
  refine R_istore_nX X (lv' := [(1, .int (zI x1)), (0, .ref (ad 215))]) ex1 dX10_clearText_4 rfl (by decide) rfl ?_
  refine R_aload_n X 1 dX10_clearText_5 rfl rfl ?_
  refine R_iconst X dX10_clearText_6 ?_
  obtain ⟨M2, eM2, hf⟩ := zlt_some hf
  refine R_put X (j := 4) lc_215 rfl inX10 tyX10_ok nmX10 (by decide) rfl rfl rfl wf_X10_156 rfl (by decide +kernel) (z_nI _) (z_fI _) dX10_clearText_7 ?_
  refine R_mem eM2 ?_
  refine R_iload_n X 0 dX10_clearText_10 rfl rfl ?_
  exact R_iret X hr hk0 dX10_clearText_11 hf
theorem dX10_comeTo_0 : decode cX10_comeTo 0 = .ok (.aload_n 0, 1) := by decide +kernel
theorem dX10_comeTo_1 : decode cX10_comeTo 1 = .ok (.getfield 16, 3) := by decide +kernel
theorem dX10_comeTo_4 : decode cX10_comeTo 4 = .ok (.aload_n 0, 1) := by decide +kernel
theorem dX10_comeTo_5 : decode cX10_comeTo 5 = .ok (.getfield 113, 3) := by decide +kernel
theorem dX10_comeTo_8 : decode cX10_comeTo 8 = .ok (.iload_n 1, 1) := by decide +kernel
theorem dX10_comeTo_9 : decode cX10_comeTo 9 = .ok (.iastore, 1) := by decide +kernel
theorem dX10_comeTo_10 : decode cX10_comeTo 10 = .ok (.aload_n 0, 1) := by decide +kernel
theorem dX10_comeTo_11 : decode cX10_comeTo 11 = .ok (.dup, 1) := by decide +kernel
theorem dX10_comeTo_12 : decode cX10_comeTo 12 = .ok (.getfield 113, 3) := by decide +kernel
theorem dX10_comeTo_15 : decode cX10_comeTo 15 = .ok (.iconst 1, 1) := by decide +kernel
theorem dX10_comeTo_16 : decode cX10_comeTo 16 = .ok (.iadd, 1) := by decide +kernel
theorem dX10_comeTo_17 : decode cX10_comeTo 17 = .ok (.putfield 113, 3) := by decide +kernel
theorem dX10_comeTo_20 : decode cX10_comeTo 20 = .ok (.return_, 1) := by decide +kernel
set_option maxRecDepth 100000 in
set_option maxHeartbeats 4000000 in
theorem c_X10_comeTo (l : Launch) (D : va_G) (cas : Nat → ClassId) (ad : Nat → Nat) (hi : zInj ad) {v1 : Int}  {r : Int} {M M' : Mem} (hf : f_X10_comeTo v1 M = some (r, M')) : zMv l D cas ad yX10_comeTo cX10_comeTo 2 0 0 [.ref (ad 215), .int (zI v1)] M M' := by
  refine zbody (by decide) (Nat.le_of_ble_eq_true rfl) hi ?_
  intro p e s m args below meth c X hr hk0
  have X : zX p s m args c cX10_comeTo "ShardTrailsModel" 2 D cas ad (zA ad) := X
  unfold f_X10_comeTo at hf
  refine (?_ : WW p l e (zrm 0 0) s m args below meth c D cas ad (zA ad) 2 0 0 (MQ below (zQv D cas ad M') args s 0 0 (zA ad)) 0 [(0, .ref (ad 215)), (1, .int (zI v1))] [] M)
  refine R_aload_n X 0 dX10_comeTo_0 rfl rfl ?_
  refine R_getR X (j := 5) 3 218 lc_215 rfl inX10 (by decide) rfl rfl (by decide) rfl rfl wf_X10_16 dX10_comeTo_1 ?_
  refine R_aload_n X 0 dX10_comeTo_4 rfl rfl ?_
  refine R_getI X (j := 6) lc_215 rfl inX10 (by decide) rfl rfl rfl wf_X10_113 dX10_comeTo_5 ?_
  refine R_iload_n X 1 dX10_comeTo_8 rfl rfl ?_
  obtain ⟨hq1, hf⟩ := zgrd hf
  obtain ⟨M2, eM2, hf⟩ := zlt_some hf
  refine R_iast X lc_218 hq1 dX10_comeTo_9 ?_
  refine R_mem eM2 ?_
  refine R_aload_n X 0 dX10_comeTo_10 rfl rfl ?_
  refine R_dup X dX10_comeTo_11 rfl ?_
  refine R_getI X (j := 6) lc_215 rfl inX10 (by decide) rfl rfl rfl wf_X10_113 dX10_comeTo_12 ?_
  refine R_iconst X dX10_comeTo_15 ?_
  refine R_iadd X dX10_comeTo_16 ?_
  obtain ⟨M3, eM3, hf⟩ := zlt_some hf
  refine R_put X (j := 6) lc_215 rfl inX10 tyX10_ok nmX10 (by decide) rfl rfl rfl wf_X10_113 rfl (by decide +kernel) (z_nI _) (z_fI _) dX10_comeTo_17 ?_
  refine R_mem eM3 ?_
  exact R_vret X hr hk0 dX10_comeTo_20 hf
theorem dX10_hasInn_0 : decode cX10_hasInn 0 = .ok (.aload_n 0, 1) := by decide +kernel
theorem dX10_hasInn_1 : decode cX10_hasInn 1 = .ok (.getfield 7, 3) := by decide +kernel
theorem dX10_hasInn_4 : decode cX10_hasInn 4 = .ok (.iconst 0, 1) := by decide +kernel
theorem dX10_hasInn_5 : decode cX10_hasInn 5 = .ok (.iconst 4, 1) := by decide +kernel
theorem dX10_hasInn_6 : decode cX10_hasInn 6 = .ok (.iload_n 1, 1) := by decide +kernel
theorem dX10_hasInn_7 : decode cX10_hasInn 7 = .ok (.imul, 1) := by decide +kernel
theorem dX10_hasInn_8 : decode cX10_hasInn 8 = .ok (.iadd, 1) := by decide +kernel
theorem dX10_hasInn_9 : decode cX10_hasInn 9 = .ok (.iconst 2, 1) := by decide +kernel
theorem dX10_hasInn_10 : decode cX10_hasInn 10 = .ok (.iadd, 1) := by decide +kernel
theorem dX10_hasInn_11 : decode cX10_hasInn 11 = .ok (.iaload, 1) := by decide +kernel
theorem dX10_hasInn_12 : decode cX10_hasInn 12 = .ok (.iconst 1, 1) := by decide +kernel
theorem dX10_hasInn_13 : decode cX10_hasInn 13 = .ok (.if_icmp .ne 7, 3) := by decide +kernel
theorem dX10_hasInn_16 : decode cX10_hasInn 16 = .ok (.iconst 1, 1) := by decide +kernel
theorem dX10_hasInn_17 : decode cX10_hasInn 17 = .ok (.goto 4, 3) := by decide +kernel
theorem dX10_hasInn_20 : decode cX10_hasInn 20 = .ok (.iconst 0, 1) := by decide +kernel
theorem dX10_hasInn_21 : decode cX10_hasInn 21 = .ok (.ireturn, 1) := by decide +kernel
set_option maxRecDepth 100000 in
set_option maxHeartbeats 4000000 in
theorem c_X10_hasInn (l : Launch) (D : va_G) (cas : Nat → ClassId) (ad : Nat → Nat) (hi : zInj ad) {v1 : Int}  {r : Int} {M M' : Mem} (hf : f_X10_hasInn v1 M = some (r, M')) : zMi l D cas ad yX10_hasInn cX10_hasInn 2 (some .boolean) 0 0 [.ref (ad 215), .int (zI v1)] M r M' := by
  refine zbody (by decide) (Nat.le_of_ble_eq_true rfl) hi ?_
  intro p e s m args below meth c X hr hk0
  have X : zX p s m args c cX10_hasInn "ShardTrailsModel" 2 D cas ad (zA ad) := X
  have hB21 : ∀ (t1 : Int) (M : Mem), f_X10_hasInn_b21 t1 M = some (r, M') → WW p l e (zrm 0 0) s m args below meth c D cas ad (zA ad) 2 0 0 (MQ below (zQi D cas ad r M') args s 0 0 (zA ad)) 21 [] [.int (zI t1)] M := by
    intro t1 M hf
    unfold f_X10_hasInn_b21 at hf
    obtain ⟨hq4, hf⟩ := zgrd hf
    exact R_zret X hq4 hr hk0 dX10_hasInn_21 hf
  unfold f_X10_hasInn at hf
  refine (?_ : WW p l e (zrm 0 0) s m args below meth c D cas ad (zA ad) 2 0 0 (MQ below (zQi D cas ad r M') args s 0 0 (zA ad)) 0 [(0, .ref (ad 215)), (1, .int (zI v1))] [] M)
  refine R_aload_n X 0 dX10_hasInn_0 rfl rfl ?_
  refine R_getR X (j := 0) 1 216 lc_215 rfl inX10 (by decide) rfl rfl (by decide) rfl rfl wf_X10_7 dX10_hasInn_1 ?_
  refine R_iconst X dX10_hasInn_4 ?_
  refine R_iconst X dX10_hasInn_5 ?_
  refine R_iload_n X 1 dX10_hasInn_6 rfl rfl ?_
  refine R_imul X dX10_hasInn_7 ?_
  refine R_iadd X dX10_hasInn_8 ?_
  refine R_iconst X dX10_hasInn_9 ?_
  refine R_iadd X dX10_hasInn_10 ?_
  obtain ⟨hq1, hf⟩ := zgrd hf
  refine R_iald X lc_216 hq1 dX10_hasInn_11 ?_
  refine R_iconst X dX10_hasInn_12 ?_
  obtain ⟨hq2, hf⟩ := zgrd hf
  refine R_icmp_ne X 20 ⟨hq2, (by decide)⟩ dX10_hasInn_13 (by decide) (fun c3 => ?_) (fun c3 => ?_)
  · have hf := zelse hf c3
    refine R_iconst X dX10_hasInn_20 ?_
    exact R_sub [] rfl (hB21 0 M hf)
  · have hf := zthen hf c3
    refine R_iconst X dX10_hasInn_16 ?_
    refine R_goto X 21 dX10_hasInn_17 (by decide) ?_
    exact R_sub [] rfl (hB21 1 M hf)
theorem dX10_inns_0 : decode cX10_inns 0 = .ok (.iconst 0, 1) := by decide +kernel
theorem dX10_inns_1 : decode cX10_inns 1 = .ok (.istore_n 1, 1) := by decide +kernel
theorem dX10_inns_2 : decode cX10_inns 2 = .ok (.iconst 0, 1) := by decide +kernel
theorem dX10_inns_3 : decode cX10_inns 3 = .ok (.istore_n 2, 1) := by decide +kernel
theorem dX10_inns_4 : decode cX10_inns 4 = .ok (.iload_n 2, 1) := by decide +kernel
theorem dX10_inns_5 : decode cX10_inns 5 = .ok (.aload_n 0, 1) := by decide +kernel
theorem dX10_inns_6 : decode cX10_inns 6 = .ok (.getfield 7, 3) := by decide +kernel
theorem dX10_inns_9 : decode cX10_inns 9 = .ok (.sipush 863, 3) := by decide +kernel
theorem dX10_inns_12 : decode cX10_inns 12 = .ok (.iaload, 1) := by decide +kernel
theorem dX10_inns_13 : decode cX10_inns 13 = .ok (.if_icmp .ge 25, 3) := by decide +kernel
theorem dX10_inns_16 : decode cX10_inns 16 = .ok (.iload_n 1, 1) := by decide +kernel
theorem dX10_inns_17 : decode cX10_inns 17 = .ok (.aload_n 0, 1) := by decide +kernel
theorem dX10_inns_18 : decode cX10_inns 18 = .ok (.iload_n 2, 1) := by decide +kernel
theorem dX10_inns_19 : decode cX10_inns 19 = .ok (.invokevirtual 38, 3) := by decide +kernel
theorem dX10_inns_22 : decode cX10_inns 22 = .ok (.ifCond .eq 7, 3) := by decide +kernel
theorem dX10_inns_25 : decode cX10_inns 25 = .ok (.iconst 1, 1) := by decide +kernel
theorem dX10_inns_26 : decode cX10_inns 26 = .ok (.goto 4, 3) := by decide +kernel
theorem dX10_inns_29 : decode cX10_inns 29 = .ok (.iconst 0, 1) := by decide +kernel
theorem dX10_inns_30 : decode cX10_inns 30 = .ok (.iadd, 1) := by decide +kernel
theorem dX10_inns_31 : decode cX10_inns 31 = .ok (.istore_n 1, 1) := by decide +kernel
theorem dX10_inns_32 : decode cX10_inns 32 = .ok (.iinc 2 1, 3) := by decide +kernel
theorem dX10_inns_35 : decode cX10_inns 35 = .ok (.goto (-31), 3) := by decide +kernel
theorem dX10_inns_38 : decode cX10_inns 38 = .ok (.iload_n 1, 1) := by decide +kernel
theorem dX10_inns_39 : decode cX10_inns 39 = .ok (.ireturn, 1) := by decide +kernel
set_option maxRecDepth 100000 in
set_option maxHeartbeats 4000000 in
theorem c_X10_inns (l : Launch) (D : va_G) (cas : Nat → ClassId) (ad : Nat → Nat) (hi : zInj ad)   {r : Int} {M M' : Mem} (hf : f_X10_inns M = some (r, M')) : zMi l D cas ad yX10_inns cX10_inns 3 (some .int) 1 21 [.ref (ad 215)] M r M' := by
  refine zbody (by decide) (Nat.le_of_ble_eq_true rfl) hi ?_
  intro p e s m args below meth c X hr hk0
  have X : zX p s m args c cX10_inns "ShardTrailsModel" 3 D cas ad (zA ad) := X
  have hB30 : ∀ (g4 : Int → Int → Mem → Option (Int × Mem)) (hg4 : ∀ (v1 v2 : Int) (M : Mem), g4 v1 v2 M = some (r, M') → WW p l e (zrm 1 21) s m args below meth c D cas ad (zA ad) 3 0 0 (MQ below (zQi D cas ad r M') args s 0 0 (zA ad)) 4 [(0, .ref (ad 215)), (1, .int (zI v1)), (2, .int (zI v2))] [] M) (v2 t2 t1 : Int) (M : Mem), f_X10_inns_b30 g4 v2 t2 t1 M = some (r, M') → WW p l e (zrm 1 21) s m args below meth c D cas ad (zA ad) 3 0 0 (MQ below (zQi D cas ad r M') args s 0 0 (zA ad)) 30 [(0, .ref (ad 215)), (2, .int (zI v2))] [.int (zI t2), .int (zI t1)] M := by
    intro g4 hg4 v2 t2 t1 M hf
    unfold f_X10_inns_b30 at hf
    refine R_iadd X dX10_inns_30 ?_
    obtain ⟨x9, ex9, hf⟩ := zlt_some hf
    refine R_istore_nX X (lv' := [(1, .int (zI x9)), (0, .ref (ad 215)), (2, .int (zI v2))]) ex9 dX10_inns_31 rfl (by decide) rfl ?_
    refine R_iinc X (lv' := [(2, .int (zI (v2 + 1))), (1, .int (zI x9)), (0, .ref (ad 215))]) 2 dX10_inns_32 rfl (by decide) rfl ?_
    refine R_goto X 4 dX10_inns_35 (by decide) ?_
    exact R_sub [2, 1, 0] rfl (hg4 x9 (v2 + 1) M hf)
  have hB4 : ∀ (n : Nat) (v1 v2 : Int) (M : Mem), f_X10_inns_b4 n v1 v2 M = some (r, M') → WW p l e (zrm 1 21) s m args below meth c D cas ad (zA ad) 3 0 0 (MQ below (zQi D cas ad r M') args s 0 0 (zA ad)) 4 [(0, .ref (ad 215)), (1, .int (zI v1)), (2, .int (zI v2))] [] M := by
    intro n
    induction n with
    | zero => intro v1 v2 M hf; exact absurd hf (by unfold f_X10_inns_b4; simp)
    | succ n ih =>
      intro v1 v2 M hf
      unfold f_X10_inns_b4 at hf
      refine R_iload_n X 2 dX10_inns_4 rfl rfl ?_
      refine R_aload_n X 0 dX10_inns_5 rfl rfl ?_
      refine R_getR X (j := 0) 1 216 lc_215 rfl inX10 (by decide) rfl rfl (by decide) rfl rfl wf_X10_7 dX10_inns_6 ?_
      refine R_sipush X dX10_inns_9 (by decide +kernel) ?_
      refine R_iald X lc_216 (by decide) dX10_inns_12 ?_
      obtain ⟨hq1, hf⟩ := zgrd hf
      obtain ⟨hq2, hf⟩ := zgrd hf
      refine R_icmp_ge X 38 ⟨hq1, hq2⟩ dX10_inns_13 (by decide) (fun c8 => ?_) (fun c8 => ?_)
      · have hf := zthen hf c8
        refine R_iload_n X 1 dX10_inns_38 rfl rfl ?_
        exact R_iret X hr hk0 dX10_inns_39 hf
      · have hf := zelse hf c8
        refine R_iload_n X 1 dX10_inns_16 rfl rfl ?_
        refine R_aload_n X 0 dX10_inns_17 rfl rfl ?_
        refine R_iload_n X 2 dX10_inns_18 rfl rfl ?_
        obtain ⟨r3, M4, hc5, hf⟩ := zbnd_some hf
        refine R_callVi X (av := [.int (zI v2)]) (rest := [.int (zI v1)]) (c_X10_hasInn l D cas ad hi hc5) zy_X10_hasInn lc_215 rfl rfl wm_X10_38 rfl rfl ⟨Nat.le_of_ble_eq_true rfl, Nat.le_of_ble_eq_true rfl⟩ ⟨Nat.le_refl _, Nat.le_refl _⟩ (Nat.le_of_ble_eq_true rfl) dX10_inns_19 ?_
        obtain ⟨hq6, hf⟩ := zgrd hf
        refine R_if_eq X 29 hq6 dX10_inns_22 (by decide) (fun c7 => ?_) (fun c7 => ?_)
        · have hf := zthen hf c7
          refine R_iconst X dX10_inns_29 ?_
          exact R_sub [0, 2] rfl (hB30 (f_X10_inns_b4 n) ih v2 0 v1 M4 hf)
        · have hf := zelse hf c7
          refine R_iconst X dX10_inns_25 ?_
          refine R_goto X 30 dX10_inns_26 (by decide) ?_
          exact R_sub [0, 2] rfl (hB30 (f_X10_inns_b4 n) ih v2 1 v1 M4 hf)
  unfold f_X10_inns at hf
  refine (?_ : WW p l e (zrm 1 21) s m args below meth c D cas ad (zA ad) 3 0 0 (MQ below (zQi D cas ad r M') args s 0 0 (zA ad)) 0 [(0, .ref (ad 215))] [] M)
  refine R_iconst X dX10_inns_0 ?_
  refine R_istore_n X (lv' := [(1, .int (zI 0)), (0, .ref (ad 215))]) dX10_inns_1 rfl (by decide) rfl ?_
  refine R_iconst X dX10_inns_2 ?_
  refine R_istore_n X (lv' := [(2, .int (zI 0)), (1, .int (zI 0)), (0, .ref (ad 215))]) dX10_inns_3 rfl (by decide) rfl ?_
  exact R_sub [2, 1, 0] rfl (hB4 100000 0 0 M hf)
theorem dX10_season_0 : decode cX10_season 0 = .ok (.aload_n 0, 1) := by decide +kernel
theorem dX10_season_1 : decode cX10_season 1 = .ok (.getfield 7, 3) := by decide +kernel
theorem dX10_season_4 : decode cX10_season 4 = .ok (.sipush 862, 3) := by decide +kernel
theorem dX10_season_7 : decode cX10_season 7 = .ok (.iaload, 1) := by decide +kernel
theorem dX10_season_8 : decode cX10_season 8 = .ok (.aload_n 0, 1) := by decide +kernel
theorem dX10_season_9 : decode cX10_season 9 = .ok (.getfield 7, 3) := by decide +kernel
theorem dX10_season_12 : decode cX10_season 12 = .ok (.sipush 856, 3) := by decide +kernel
theorem dX10_season_15 : decode cX10_season 15 = .ok (.iaload, 1) := by decide +kernel
theorem dX10_season_16 : decode cX10_season 16 = .ok (.idiv, 1) := by decide +kernel
theorem dX10_season_17 : decode cX10_season 17 = .ok (.iconst 4, 1) := by decide +kernel
theorem dX10_season_18 : decode cX10_season 18 = .ok (.irem, 1) := by decide +kernel
theorem dX10_season_19 : decode cX10_season 19 = .ok (.ireturn, 1) := by decide +kernel
set_option maxRecDepth 100000 in
set_option maxHeartbeats 4000000 in
theorem c_X10_season (l : Launch) (D : va_G) (cas : Nat → ClassId) (ad : Nat → Nat) (hi : zInj ad)   {r : Int} {M M' : Mem} (hf : f_X10_season M = some (r, M')) : zMi l D cas ad yX10_season cX10_season 1 (some .int) 0 0 [.ref (ad 215)] M r M' := by
  refine zbody (by decide) (Nat.le_of_ble_eq_true rfl) hi ?_
  intro p e s m args below meth c X hr hk0
  have X : zX p s m args c cX10_season "ShardTrailsModel" 1 D cas ad (zA ad) := X
  unfold f_X10_season at hf
  refine (?_ : WW p l e (zrm 0 0) s m args below meth c D cas ad (zA ad) 1 0 0 (MQ below (zQi D cas ad r M') args s 0 0 (zA ad)) 0 [(0, .ref (ad 215))] [] M)
  refine R_aload_n X 0 dX10_season_0 rfl rfl ?_
  refine R_getR X (j := 0) 1 216 lc_215 rfl inX10 (by decide) rfl rfl (by decide) rfl rfl wf_X10_7 dX10_season_1 ?_
  refine R_sipush X dX10_season_4 (by decide +kernel) ?_
  refine R_iald X lc_216 (by decide) dX10_season_7 ?_
  refine R_aload_n X 0 dX10_season_8 rfl rfl ?_
  refine R_getR X (j := 0) 1 216 lc_215 rfl inX10 (by decide) rfl rfl (by decide) rfl rfl wf_X10_7 dX10_season_9 ?_
  refine R_sipush X dX10_season_12 (by decide +kernel) ?_
  refine R_iald X lc_216 (by decide) dX10_season_15 ?_
  obtain ⟨hq1, hf⟩ := zgrd hf
  obtain ⟨hq2, hf⟩ := zgrd hf
  obtain ⟨hq3, hf⟩ := zgrd hf
  refine R_idiv X ⟨⟨hq1, hq2⟩, hq3⟩ dX10_season_16 ?_
  refine R_iconst X dX10_season_17 ?_
  obtain ⟨hq4, hf⟩ := zgrd hf
  refine R_irem X ⟨⟨hq4, (by decide)⟩, (by decide)⟩ dX10_season_18 ?_
  exact R_iret X hr hk0 dX10_season_19 hf
theorem dX10_hasTrack_0 : decode cX10_hasTrack 0 = .ok (.aload_n 0, 1) := by decide +kernel
theorem dX10_hasTrack_1 : decode cX10_hasTrack 1 = .ok (.getfield 7, 3) := by decide +kernel
theorem dX10_hasTrack_4 : decode cX10_hasTrack 4 = .ok (.sipush 160, 3) := by decide +kernel
theorem dX10_hasTrack_7 : decode cX10_hasTrack 7 = .ok (.iload_n 1, 1) := by decide +kernel
theorem dX10_hasTrack_8 : decode cX10_hasTrack 8 = .ok (.iload_n 2, 1) := by decide +kernel
theorem dX10_hasTrack_9 : decode cX10_hasTrack 9 = .ok (.invokestatic 70, 3) := by decide +kernel
theorem dX10_hasTrack_12 : decode cX10_hasTrack 12 = .ok (.iaload, 1) := by decide +kernel
theorem dX10_hasTrack_13 : decode cX10_hasTrack 13 = .ok (.ifCond .le 7, 3) := by decide +kernel
theorem dX10_hasTrack_16 : decode cX10_hasTrack 16 = .ok (.iconst 1, 1) := by decide +kernel
theorem dX10_hasTrack_17 : decode cX10_hasTrack 17 = .ok (.goto 4, 3) := by decide +kernel
theorem dX10_hasTrack_20 : decode cX10_hasTrack 20 = .ok (.iconst 0, 1) := by decide +kernel
theorem dX10_hasTrack_21 : decode cX10_hasTrack 21 = .ok (.ireturn, 1) := by decide +kernel
set_option maxRecDepth 100000 in
set_option maxHeartbeats 4000000 in
theorem c_X10_hasTrack (l : Launch) (D : va_G) (cas : Nat → ClassId) (ad : Nat → Nat) (hi : zInj ad) {v1 : Int} {v2 : Int}  {r : Int} {M M' : Mem} (hf : f_X10_hasTrack v1 v2 M = some (r, M')) : zMi l D cas ad yX10_hasTrack cX10_hasTrack 3 (some .boolean) 1 22 [.ref (ad 215), .int (zI v1), .int (zI v2)] M r M' := by
  refine zbody (by decide) (Nat.le_of_ble_eq_true rfl) hi ?_
  intro p e s m args below meth c X hr hk0
  have X : zX p s m args c cX10_hasTrack "ShardTrailsModel" 3 D cas ad (zA ad) := X
  have hB21 : ∀ (t1 : Int) (M : Mem), f_X10_hasTrack_b21 t1 M = some (r, M') → WW p l e (zrm 1 22) s m args below meth c D cas ad (zA ad) 3 0 0 (MQ below (zQi D cas ad r M') args s 0 0 (zA ad)) 21 [] [.int (zI t1)] M := by
    intro t1 M hf
    unfold f_X10_hasTrack_b21 at hf
    obtain ⟨hq7, hf⟩ := zgrd hf
    exact R_zret X hq7 hr hk0 dX10_hasTrack_21 hf
  unfold f_X10_hasTrack at hf
  refine (?_ : WW p l e (zrm 1 22) s m args below meth c D cas ad (zA ad) 3 0 0 (MQ below (zQi D cas ad r M') args s 0 0 (zA ad)) 0 [(0, .ref (ad 215)), (1, .int (zI v1)), (2, .int (zI v2))] [] M)
  refine R_aload_n X 0 dX10_hasTrack_0 rfl rfl ?_
  refine R_getR X (j := 0) 1 216 lc_215 rfl inX10 (by decide) rfl rfl (by decide) rfl rfl wf_X10_7 dX10_hasTrack_1 ?_
  refine R_sipush X dX10_hasTrack_4 (by decide +kernel) ?_
  refine R_iload_n X 1 dX10_hasTrack_7 rfl rfl ?_
  refine R_iload_n X 2 dX10_hasTrack_8 rfl rfl ?_
  obtain ⟨r1, M2, hc3, hf⟩ := zbnd_some hf
  refine R_callSi X (av := [.int (zI 160), .int (zI v1), .int (zI v2)]) (rest := [.ref (ad 216)]) (c_X10_at l D cas ad hi hc3) zy_X10_at wm_X10_70 rfl rfl ⟨Nat.le_of_ble_eq_true rfl, Nat.le_of_ble_eq_true rfl⟩ ⟨Nat.le_refl _, Nat.le_refl _⟩ (Nat.le_of_ble_eq_true rfl) dX10_hasTrack_9 ?_
  obtain ⟨hq4, hf⟩ := zgrd hf
  refine R_iald X lc_216 hq4 dX10_hasTrack_12 ?_
  obtain ⟨hq5, hf⟩ := zgrd hf
  refine R_if_le X 20 hq5 dX10_hasTrack_13 (by decide) (fun c6 => ?_) (fun c6 => ?_)
  · have hf := zthen hf c6
    refine R_iconst X dX10_hasTrack_20 ?_
    exact R_sub [] rfl (hB21 0 M2 hf)
  · have hf := zelse hf c6
    refine R_iconst X dX10_hasTrack_16 ?_
    refine R_goto X 21 dX10_hasTrack_17 (by decide) ?_
    exact R_sub [] rfl (hB21 1 M2 hf)

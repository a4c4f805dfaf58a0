theorem dX10_roam_0 : decode cX10_roam 0 = .ok (.iconst 0, 1) := by decide +kernel
theorem dX10_roam_1 : decode cX10_roam 1 = .ok (.istore_n 1, 1) := by decide +kernel
theorem dX10_roam_2 : decode cX10_roam 2 = .ok (.iload_n 1, 1) := by decide +kernel
theorem dX10_roam_3 : decode cX10_roam 3 = .ok (.aload_n 0, 1) := by decide +kernel
theorem dX10_roam_4 : decode cX10_roam 4 = .ok (.getfield 7, 3) := by decide +kernel
theorem dX10_roam_7 : decode cX10_roam 7 = .ok (.sipush 864, 3) := by decide +kernel
theorem dX10_roam_10 : decode cX10_roam 10 = .ok (.iaload, 1) := by decide +kernel
theorem dX10_roam_11 : decode cX10_roam 11 = .ok (.if_icmp .ge 74, 3) := by decide +kernel
theorem dX10_roam_14 : decode cX10_roam 14 = .ok (.aload_n 0, 1) := by decide +kernel
theorem dX10_roam_15 : decode cX10_roam 15 = .ok (.getfield 7, 3) := by decide +kernel
theorem dX10_roam_18 : decode cX10_roam 18 = .ok (.sipush 720, 3) := by decide +kernel
theorem dX10_roam_21 : decode cX10_roam 21 = .ok (.iconst 2, 1) := by decide +kernel
theorem dX10_roam_22 : decode cX10_roam 22 = .ok (.iload_n 1, 1) := by decide +kernel
theorem dX10_roam_23 : decode cX10_roam 23 = .ok (.imul, 1) := by decide +kernel
theorem dX10_roam_24 : decode cX10_roam 24 = .ok (.iadd, 1) := by decide +kernel
theorem dX10_roam_25 : decode cX10_roam 25 = .ok (.aload_n 0, 1) := by decide +kernel
theorem dX10_roam_26 : decode cX10_roam 26 = .ok (.getfield 7, 3) := by decide +kernel
theorem dX10_roam_29 : decode cX10_roam 29 = .ok (.sipush 720, 3) := by decide +kernel
theorem dX10_roam_32 : decode cX10_roam 32 = .ok (.iconst 2, 1) := by decide +kernel
theorem dX10_roam_33 : decode cX10_roam 33 = .ok (.iload_n 1, 1) := by decide +kernel
theorem dX10_roam_34 : decode cX10_roam 34 = .ok (.imul, 1) := by decide +kernel
theorem dX10_roam_35 : decode cX10_roam 35 = .ok (.iadd, 1) := by decide +kernel
theorem dX10_roam_36 : decode cX10_roam 36 = .ok (.iaload, 1) := by decide +kernel
theorem dX10_roam_37 : decode cX10_roam 37 = .ok (.aload_n 0, 1) := by decide +kernel
theorem dX10_roam_38 : decode cX10_roam 38 = .ok (.getfield 7, 3) := by decide +kernel
theorem dX10_roam_41 : decode cX10_roam 41 = .ok (.sipush 720, 3) := by decide +kernel
theorem dX10_roam_44 : decode cX10_roam 44 = .ok (.iconst 2, 1) := by decide +kernel
theorem dX10_roam_45 : decode cX10_roam 45 = .ok (.iload_n 1, 1) := by decide +kernel
theorem dX10_roam_46 : decode cX10_roam 46 = .ok (.imul, 1) := by decide +kernel
theorem dX10_roam_47 : decode cX10_roam 47 = .ok (.iadd, 1) := by decide +kernel
theorem dX10_roam_48 : decode cX10_roam 48 = .ok (.iconst 1, 1) := by decide +kernel
theorem dX10_roam_49 : decode cX10_roam 49 = .ok (.iadd, 1) := by decide +kernel
theorem dX10_roam_50 : decode cX10_roam 50 = .ok (.iaload, 1) := by decide +kernel
theorem dX10_roam_51 : decode cX10_roam 51 = .ok (.iadd, 1) := by decide +kernel
theorem dX10_roam_52 : decode cX10_roam 52 = .ok (.aload_n 0, 1) := by decide +kernel
theorem dX10_roam_53 : decode cX10_roam 53 = .ok (.getfield 7, 3) := by decide +kernel
theorem dX10_roam_56 : decode cX10_roam 56 = .ok (.sipush 863, 3) := by decide +kernel
theorem dX10_roam_59 : decode cX10_roam 59 = .ok (.iaload, 1) := by decide +kernel
theorem dX10_roam_60 : decode cX10_roam 60 = .ok (.irem, 1) := by decide +kernel
theorem dX10_roam_61 : decode cX10_roam 61 = .ok (.iastore, 1) := by decide +kernel
theorem dX10_roam_62 : decode cX10_roam 62 = .ok (.aload_n 0, 1) := by decide +kernel
theorem dX10_roam_63 : decode cX10_roam 63 = .ok (.aload_n 0, 1) := by decide +kernel
theorem dX10_roam_64 : decode cX10_roam 64 = .ok (.getfield 7, 3) := by decide +kernel
theorem dX10_roam_67 : decode cX10_roam 67 = .ok (.sipush 720, 3) := by decide +kernel
theorem dX10_roam_70 : decode cX10_roam 70 = .ok (.iconst 2, 1) := by decide +kernel
theorem dX10_roam_71 : decode cX10_roam 71 = .ok (.iload_n 1, 1) := by decide +kernel
theorem dX10_roam_72 : decode cX10_roam 72 = .ok (.imul, 1) := by decide +kernel
theorem dX10_roam_73 : decode cX10_roam 73 = .ok (.iadd, 1) := by decide +kernel
theorem dX10_roam_74 : decode cX10_roam 74 = .ok (.iaload, 1) := by decide +kernel
theorem dX10_roam_75 : decode cX10_roam 75 = .ok (.invokevirtual 86, 3) := by decide +kernel
theorem dX10_roam_78 : decode cX10_roam 78 = .ok (.pop, 1) := by decide +kernel
theorem dX10_roam_79 : decode cX10_roam 79 = .ok (.iinc 1 1, 3) := by decide +kernel
theorem dX10_roam_82 : decode cX10_roam 82 = .ok (.goto (-80), 3) := by decide +kernel
theorem dX10_roam_85 : decode cX10_roam 85 = .ok (.return_, 1) := by decide +kernel
set_option maxRecDepth 100000 in
set_option maxHeartbeats 4000000 in
theorem c_X10_roam (l : Launch) (D : va_G) (cas : Nat → ClassId) (ad : Nat → Nat) (hi : zInj ad)   {r : Int} {M M' : Mem} (hf : f_X10_roam M = some (r, M')) : zMv l D cas ad yX10_roam cX10_roam 2 4 90 [.ref (ad 215)] M M' := by
  refine zbody (by decide) (Nat.le_of_ble_eq_true rfl) hi ?_
  intro p e s m args below meth c X hr hk0
  have X : zX p s m args c cX10_roam "ShardTrailsModel" 2 D cas ad (zA ad) := X
  have hB2 : ∀ (n : Nat) (v1 : Int) (M : Mem), f_X10_roam_b2 n v1 M = some (r, M') → WW p l e (zrm 4 90) s m args below meth c D cas ad (zA ad) 2 0 0 (MQ below (zQv D cas ad M') args s 0 0 (zA ad)) 2 [(0, .ref (ad 215)), (1, .int (zI v1))] [] M := by
    intro n
    induction n with
    | zero => intro v1 M hf; exact absurd hf (by unfold f_X10_roam_b2; simp)
    | succ n ih =>
      intro v1 M hf
      unfold f_X10_roam_b2 at hf
      refine R_iload_n X 1 dX10_roam_2 rfl rfl ?_
      refine R_aload_n X 0 dX10_roam_3 rfl rfl ?_
      refine R_getR X (j := 0) 1 216 lc_215 rfl inX10 (by decide) rfl rfl (by decide) rfl rfl wf_X10_7 dX10_roam_4 ?_
      refine R_sipush X dX10_roam_7 (by decide +kernel) ?_
      refine R_iald X lc_216 (by decide) dX10_roam_10 ?_
      obtain ⟨hq1, hf⟩ := zgrd hf
      obtain ⟨hq2, hf⟩ := zgrd hf
      refine R_icmp_ge X 85 ⟨hq1, hq2⟩ dX10_roam_11 (by decide) (fun c12 => ?_) (fun c12 => ?_)
      · have hf := zthen hf c12
        exact R_vret X hr hk0 dX10_roam_85 hf
      · have hf := zelse hf c12
        refine R_aload_n X 0 dX10_roam_14 rfl rfl ?_
        refine R_getR X (j := 0) 1 216 lc_215 rfl inX10 (by decide) rfl rfl (by decide) rfl rfl wf_X10_7 dX10_roam_15 ?_
        refine R_sipush X dX10_roam_18 (by decide +kernel) ?_
        refine R_iconst X dX10_roam_21 ?_
        refine R_iload_n X 1 dX10_roam_22 rfl rfl ?_
        refine R_imul X dX10_roam_23 ?_
        refine R_iadd X dX10_roam_24 ?_
        refine R_aload_n X 0 dX10_roam_25 rfl rfl ?_
        refine R_getR X (j := 0) 1 216 lc_215 rfl inX10 (by decide) rfl rfl (by decide) rfl rfl wf_X10_7 dX10_roam_26 ?_
        refine R_sipush X dX10_roam_29 (by decide +kernel) ?_
        refine R_iconst X dX10_roam_32 ?_
        refine R_iload_n X 1 dX10_roam_33 rfl rfl ?_
        refine R_imul X dX10_roam_34 ?_
        refine R_iadd X dX10_roam_35 ?_
        obtain ⟨hq3, hf⟩ := zgrd hf
        refine R_iald X lc_216 hq3 dX10_roam_36 ?_
        refine R_aload_n X 0 dX10_roam_37 rfl rfl ?_
        refine R_getR X (j := 0) 1 216 lc_215 rfl inX10 (by decide) rfl rfl (by decide) rfl rfl wf_X10_7 dX10_roam_38 ?_
        refine R_sipush X dX10_roam_41 (by decide +kernel) ?_
        refine R_iconst X dX10_roam_44 ?_
        refine R_iload_n X 1 dX10_roam_45 rfl rfl ?_
        refine R_imul X dX10_roam_46 ?_
        refine R_iadd X dX10_roam_47 ?_
        refine R_iconst X dX10_roam_48 ?_
        refine R_iadd X dX10_roam_49 ?_
        obtain ⟨hq4, hf⟩ := zgrd hf
        refine R_iald X lc_216 hq4 dX10_roam_50 ?_
        refine R_iadd X dX10_roam_51 ?_
        refine R_aload_n X 0 dX10_roam_52 rfl rfl ?_
        refine R_getR X (j := 0) 1 216 lc_215 rfl inX10 (by decide) rfl rfl (by decide) rfl rfl wf_X10_7 dX10_roam_53 ?_
        refine R_sipush X dX10_roam_56 (by decide +kernel) ?_
        refine R_iald X lc_216 (by decide) dX10_roam_59 ?_
        obtain ⟨hq5, hf⟩ := zgrd hf
        obtain ⟨hq6, hf⟩ := zgrd hf
        obtain ⟨hq7, hf⟩ := zgrd hf
        refine R_irem X ⟨⟨hq5, hq6⟩, hq7⟩ dX10_roam_60 ?_
        obtain ⟨M8, eM8, hf⟩ := zlt_some hf
        refine R_iast X lc_216 hq3 dX10_roam_61 ?_
        refine R_mem eM8 ?_
        refine R_aload_n X 0 dX10_roam_62 rfl rfl ?_
        refine R_aload_n X 0 dX10_roam_63 rfl rfl ?_
        refine R_getR X (j := 0) 1 216 lc_215 rfl inX10 (by decide) rfl rfl (by decide) rfl rfl wf_X10_7 dX10_roam_64 ?_
        refine R_sipush X dX10_roam_67 (by decide +kernel) ?_
        refine R_iconst X dX10_roam_70 ?_
        refine R_iload_n X 1 dX10_roam_71 rfl rfl ?_
        refine R_imul X dX10_roam_72 ?_
        refine R_iadd X dX10_roam_73 ?_
        refine R_iald X lc_216 hq3 dX10_roam_74 ?_
        obtain ⟨r9, M10, hc11, hf⟩ := zbnd_some hf
        refine R_callVi X (av := [.int (zI (M8 216 (720 + (2 * v1)).toNat))]) (rest := []) (c_X10_cutIn l D cas ad hi hc11) zy_X10_cutIn lc_215 rfl rfl wm_X10_86 rfl rfl ⟨Nat.le_of_ble_eq_true rfl, Nat.le_of_ble_eq_true rfl⟩ ⟨Nat.le_refl _, Nat.le_refl _⟩ (Nat.le_of_ble_eq_true rfl) dX10_roam_75 ?_
        refine R_pop X dX10_roam_78 rfl ?_
        refine R_iinc X (lv' := [(1, .int (zI (v1 + 1))), (0, .ref (ad 215))]) 1 dX10_roam_79 rfl (by decide) rfl ?_
        refine R_goto X 2 dX10_roam_82 (by decide) ?_
        exact R_sub [1, 0] rfl (ih (v1 + 1) M10 hf)
  unfold f_X10_roam at hf
  refine (?_ : WW p l e (zrm 4 90) s m args below meth c D cas ad (zA ad) 2 0 0 (MQ below (zQv D cas ad M') args s 0 0 (zA ad)) 0 [(0, .ref (ad 215))] [] M)
  refine R_iconst X dX10_roam_0 ?_
  refine R_istore_n X (lv' := [(1, .int (zI 0)), (0, .ref (ad 215))]) dX10_roam_1 rfl (by decide) rfl ?_
  exact R_sub [1, 0] rfl (hB2 100000 0 M hf)
theorem dX10_passDay_0 : decode cX10_passDay 0 = .ok (.iconst 0, 1) := by decide +kernel
theorem dX10_passDay_1 : decode cX10_passDay 1 = .ok (.istore_n 1, 1) := by decide +kernel
theorem dX10_passDay_2 : decode cX10_passDay 2 = .ok (.iload_n 1, 1) := by decide +kernel
theorem dX10_passDay_3 : decode cX10_passDay 3 = .ok (.bipush 16, 2) := by decide +kernel
theorem dX10_passDay_5 : decode cX10_passDay 5 = .ok (.if_icmp .ge 33, 3) := by decide +kernel
theorem dX10_passDay_8 : decode cX10_passDay 8 = .ok (.aload_n 0, 1) := by decide +kernel
theorem dX10_passDay_9 : decode cX10_passDay 9 = .ok (.getfield 7, 3) := by decide +kernel
theorem dX10_passDay_12 : decode cX10_passDay 12 = .ok (.sipush 432, 3) := by decide +kernel
theorem dX10_passDay_15 : decode cX10_passDay 15 = .ok (.iload_n 1, 1) := by decide +kernel
theorem dX10_passDay_16 : decode cX10_passDay 16 = .ok (.iadd, 1) := by decide +kernel
theorem dX10_passDay_17 : decode cX10_passDay 17 = .ok (.aload_n 0, 1) := by decide +kernel
theorem dX10_passDay_18 : decode cX10_passDay 18 = .ok (.getfield 7, 3) := by decide +kernel
theorem dX10_passDay_21 : decode cX10_passDay 21 = .ok (.sipush 432, 3) := by decide +kernel
theorem dX10_passDay_24 : decode cX10_passDay 24 = .ok (.iload_n 1, 1) := by decide +kernel
theorem dX10_passDay_25 : decode cX10_passDay 25 = .ok (.iadd, 1) := by decide +kernel
theorem dX10_passDay_26 : decode cX10_passDay 26 = .ok (.iaload, 1) := by decide +kernel
theorem dX10_passDay_27 : decode cX10_passDay 27 = .ok (.iconst 3, 1) := by decide +kernel
theorem dX10_passDay_28 : decode cX10_passDay 28 = .ok (.imul, 1) := by decide +kernel
theorem dX10_passDay_29 : decode cX10_passDay 29 = .ok (.iconst 4, 1) := by decide +kernel
theorem dX10_passDay_30 : decode cX10_passDay 30 = .ok (.idiv, 1) := by decide +kernel
theorem dX10_passDay_31 : decode cX10_passDay 31 = .ok (.iastore, 1) := by decide +kernel
theorem dX10_passDay_32 : decode cX10_passDay 32 = .ok (.iinc 1 1, 3) := by decide +kernel
theorem dX10_passDay_35 : decode cX10_passDay 35 = .ok (.goto (-33), 3) := by decide +kernel
theorem dX10_passDay_38 : decode cX10_passDay 38 = .ok (.aload_n 0, 1) := by decide +kernel
theorem dX10_passDay_39 : decode cX10_passDay 39 = .ok (.invokevirtual 101, 3) := by decide +kernel
theorem dX10_passDay_42 : decode cX10_passDay 42 = .ok (.aload_n 0, 1) := by decide +kernel
theorem dX10_passDay_43 : decode cX10_passDay 43 = .ok (.invokevirtual 104, 3) := by decide +kernel
theorem dX10_passDay_46 : decode cX10_passDay 46 = .ok (.aload_n 0, 1) := by decide +kernel
theorem dX10_passDay_47 : decode cX10_passDay 47 = .ok (.invokevirtual 107, 3) := by decide +kernel
theorem dX10_passDay_50 : decode cX10_passDay 50 = .ok (.aload_n 0, 1) := by decide +kernel
theorem dX10_passDay_51 : decode cX10_passDay 51 = .ok (.getfield 7, 3) := by decide +kernel
theorem dX10_passDay_54 : decode cX10_passDay 54 = .ok (.sipush 862, 3) := by decide +kernel
theorem dX10_passDay_57 : decode cX10_passDay 57 = .ok (.iaload, 1) := by decide +kernel
theorem dX10_passDay_58 : decode cX10_passDay 58 = .ok (.iconst 1, 1) := by decide +kernel
theorem dX10_passDay_59 : decode cX10_passDay 59 = .ok (.iadd, 1) := by decide +kernel
theorem dX10_passDay_60 : decode cX10_passDay 60 = .ok (.aload_n 0, 1) := by decide +kernel
theorem dX10_passDay_61 : decode cX10_passDay 61 = .ok (.getfield 7, 3) := by decide +kernel
theorem dX10_passDay_64 : decode cX10_passDay 64 = .ok (.sipush 860, 3) := by decide +kernel
theorem dX10_passDay_67 : decode cX10_passDay 67 = .ok (.iaload, 1) := by decide +kernel
theorem dX10_passDay_68 : decode cX10_passDay 68 = .ok (.irem, 1) := by decide +kernel
theorem dX10_passDay_69 : decode cX10_passDay 69 = .ok (.ifCond .ne 7, 3) := by decide +kernel
theorem dX10_passDay_72 : decode cX10_passDay 72 = .ok (.aload_n 0, 1) := by decide +kernel
theorem dX10_passDay_73 : decode cX10_passDay 73 = .ok (.invokevirtual 89, 3) := by decide +kernel
theorem dX10_passDay_76 : decode cX10_passDay 76 = .ok (.aload_n 0, 1) := by decide +kernel
theorem dX10_passDay_77 : decode cX10_passDay 77 = .ok (.getfield 7, 3) := by decide +kernel
theorem dX10_passDay_80 : decode cX10_passDay 80 = .ok (.sipush 862, 3) := by decide +kernel
theorem dX10_passDay_83 : decode cX10_passDay 83 = .ok (.dup2, 1) := by decide +kernel
theorem dX10_passDay_84 : decode cX10_passDay 84 = .ok (.iaload, 1) := by decide +kernel
theorem dX10_passDay_85 : decode cX10_passDay 85 = .ok (.iconst 1, 1) := by decide +kernel
theorem dX10_passDay_86 : decode cX10_passDay 86 = .ok (.iadd, 1) := by decide +kernel
theorem dX10_passDay_87 : decode cX10_passDay 87 = .ok (.iastore, 1) := by decide +kernel
theorem dX10_passDay_88 : decode cX10_passDay 88 = .ok (.return_, 1) := by decide +kernel
set_option maxRecDepth 100000 in
set_option maxHeartbeats 4000000 in
theorem c_X10_passDay (l : Launch) (D : va_G) (cas : Nat → ClassId) (ad : Nat → Nat) (hi : zInj ad)   {r : Int} {M M' : Mem} (hf : f_X10_passDay M = some (r, M')) : zMv l D cas ad yX10_passDay cX10_passDay 2 5 111 [.ref (ad 215)] M M' := by
  refine zbody (by decide) (Nat.le_of_ble_eq_true rfl) hi ?_
  intro p e s m args below meth c X hr hk0
  have X : zX p s m args c cX10_passDay "ShardTrailsModel" 2 D cas ad (zA ad) := X
  have hB76 : ∀ (M : Mem), f_X10_passDay_b76 M = some (r, M') → WW p l e (zrm 5 111) s m args below meth c D cas ad (zA ad) 2 0 0 (MQ below (zQv D cas ad M') args s 0 0 (zA ad)) 76 [(0, .ref (ad 215))] [] M := by
    intro M hf
    unfold f_X10_passDay_b76 at hf
    refine R_aload_n X 0 dX10_passDay_76 rfl rfl ?_
    refine R_getR X (j := 0) 1 216 lc_215 rfl inX10 (by decide) rfl rfl (by decide) rfl rfl wf_X10_7 dX10_passDay_77 ?_
    refine R_sipush X dX10_passDay_80 (by decide +kernel) ?_
    refine R_dup2 X dX10_passDay_83 rfl rfl ?_
    refine R_iald X lc_216 (by decide) dX10_passDay_84 ?_
    refine R_iconst X dX10_passDay_85 ?_
    refine R_iadd X dX10_passDay_86 ?_
    obtain ⟨M23, eM23, hf⟩ := zlt_some hf
    refine R_iast X lc_216 (by decide) dX10_passDay_87 ?_
    refine R_mem eM23 ?_
    exact R_vret X hr hk0 dX10_passDay_88 hf
  have hB2 : ∀ (n : Nat) (v1 : Int) (M : Mem), f_X10_passDay_b2 n v1 M = some (r, M') → WW p l e (zrm 5 111) s m args below meth c D cas ad (zA ad) 2 0 0 (MQ below (zQv D cas ad M') args s 0 0 (zA ad)) 2 [(0, .ref (ad 215)), (1, .int (zI v1))] [] M := by
    intro n
    induction n with
    | zero => intro v1 M hf; exact absurd hf (by unfold f_X10_passDay_b2; simp)
    | succ n ih =>
      intro v1 M hf
      unfold f_X10_passDay_b2 at hf
      refine R_iload_n X 1 dX10_passDay_2 rfl rfl ?_
      refine R_bipush X dX10_passDay_3 (by decide +kernel) ?_
      obtain ⟨hq1, hf⟩ := zgrd hf
      refine R_icmp_ge X 38 ⟨hq1, (by decide)⟩ dX10_passDay_5 (by decide) (fun c22 => ?_) (fun c22 => ?_)
      · have hf := zthen hf c22
        refine R_aload_n X 0 dX10_passDay_38 rfl rfl ?_
        obtain ⟨r2, M3, hc4, hf⟩ := zbnd_some hf
        refine R_callVv X (av := []) (rest := []) (c_X10_roam l D cas ad hi hc4) zy_X10_roam lc_215 rfl rfl wm_X10_101 rfl rfl ⟨Nat.le_of_ble_eq_true rfl, Nat.le_of_ble_eq_true rfl⟩ ⟨Nat.le_refl _, Nat.le_refl _⟩ (Nat.le_of_ble_eq_true rfl) dX10_passDay_39 ?_
        refine R_aload_n X 0 dX10_passDay_42 rfl rfl ?_
        obtain ⟨r5, M6, hc7, hf⟩ := zbnd_some hf
        refine R_callVv X (av := []) (rest := []) (c_X10_grow l D cas ad hi hc7) zy_X10_grow lc_215 rfl rfl wm_X10_104 rfl rfl ⟨Nat.le_of_ble_eq_true rfl, Nat.le_of_ble_eq_true rfl⟩ ⟨Nat.le_refl _, Nat.le_refl _⟩ (Nat.le_of_ble_eq_true rfl) dX10_passDay_43 ?_
        refine R_aload_n X 0 dX10_passDay_46 rfl rfl ?_
        obtain ⟨r8, M9, hc10, hf⟩ := zbnd_some hf
        refine R_callVv X (av := []) (rest := []) (c_X10_drive l D cas ad hi hc10) zy_X10_drive lc_215 rfl rfl wm_X10_107 rfl rfl ⟨Nat.le_of_ble_eq_true rfl, Nat.le_of_ble_eq_true rfl⟩ ⟨Nat.le_refl _, Nat.le_refl _⟩ (Nat.le_of_ble_eq_true rfl) dX10_passDay_47 ?_
        refine R_aload_n X 0 dX10_passDay_50 rfl rfl ?_
        refine R_getR X (j := 0) 1 216 lc_215 rfl inX10 (by decide) rfl rfl (by decide) rfl rfl wf_X10_7 dX10_passDay_51 ?_
        refine R_sipush X dX10_passDay_54 (by decide +kernel) ?_
        refine R_iald X lc_216 (by decide) dX10_passDay_57 ?_
        refine R_iconst X dX10_passDay_58 ?_
        refine R_iadd X dX10_passDay_59 ?_
        refine R_aload_n X 0 dX10_passDay_60 rfl rfl ?_
        refine R_getR X (j := 0) 1 216 lc_215 rfl inX10 (by decide) rfl rfl (by decide) rfl rfl wf_X10_7 dX10_passDay_61 ?_
        refine R_sipush X dX10_passDay_64 (by decide +kernel) ?_
        refine R_iald X lc_216 (by decide) dX10_passDay_67 ?_
        obtain ⟨hq11, hf⟩ := zgrd hf
        obtain ⟨hq12, hf⟩ := zgrd hf
        obtain ⟨hq13, hf⟩ := zgrd hf
        refine R_irem X ⟨⟨hq11, hq12⟩, hq13⟩ dX10_passDay_68 ?_
        obtain ⟨hq14, hf⟩ := zgrd hf
        refine R_if_ne X 76 hq14 dX10_passDay_69 (by decide) (fun c18 => ?_) (fun c18 => ?_)
        · have hf := zelse hf c18
          exact R_sub [0] rfl (hB76 M9 hf)
        · have hf := zthen hf c18
          refine R_aload_n X 0 dX10_passDay_72 rfl rfl ?_
          obtain ⟨r15, M16, hc17, hf⟩ := zbnd_some hf
          refine R_callVv X (av := []) (rest := []) (c_X10_postAll l D cas ad hi hc17) zy_X10_postAll lc_215 rfl rfl wm_X10_89 rfl rfl ⟨Nat.le_of_ble_eq_true rfl, Nat.le_of_ble_eq_true rfl⟩ ⟨Nat.le_refl _, Nat.le_refl _⟩ (Nat.le_of_ble_eq_true rfl) dX10_passDay_73 ?_
          exact R_sub [0] rfl (hB76 M16 hf)
      · have hf := zelse hf c22
        refine R_aload_n X 0 dX10_passDay_8 rfl rfl ?_
        refine R_getR X (j := 0) 1 216 lc_215 rfl inX10 (by decide) rfl rfl (by decide) rfl rfl wf_X10_7 dX10_passDay_9 ?_
        refine R_sipush X dX10_passDay_12 (by decide +kernel) ?_
        refine R_iload_n X 1 dX10_passDay_15 rfl rfl ?_
        refine R_iadd X dX10_passDay_16 ?_
        refine R_aload_n X 0 dX10_passDay_17 rfl rfl ?_
        refine R_getR X (j := 0) 1 216 lc_215 rfl inX10 (by decide) rfl rfl (by decide) rfl rfl wf_X10_7 dX10_passDay_18 ?_
        refine R_sipush X dX10_passDay_21 (by decide +kernel) ?_
        refine R_iload_n X 1 dX10_passDay_24 rfl rfl ?_
        refine R_iadd X dX10_passDay_25 ?_
        obtain ⟨hq19, hf⟩ := zgrd hf
        refine R_iald X lc_216 hq19 dX10_passDay_26 ?_
        refine R_iconst X dX10_passDay_27 ?_
        refine R_imul X dX10_passDay_28 ?_
        refine R_iconst X dX10_passDay_29 ?_
        obtain ⟨hq20, hf⟩ := zgrd hf
        refine R_idiv X ⟨⟨hq20, (by decide)⟩, (by decide)⟩ dX10_passDay_30 ?_
        obtain ⟨M21, eM21, hf⟩ := zlt_some hf
        refine R_iast X lc_216 hq19 dX10_passDay_31 ?_
        refine R_mem eM21 ?_
        refine R_iinc X (lv' := [(1, .int (zI (v1 + 1))), (0, .ref (ad 215))]) 1 dX10_passDay_32 rfl (by decide) rfl ?_
        refine R_goto X 2 dX10_passDay_35 (by decide) ?_
        exact R_sub [1, 0] rfl (ih (v1 + 1) M21 hf)
  unfold f_X10_passDay at hf
  refine (?_ : WW p l e (zrm 5 111) s m args below meth c D cas ad (zA ad) 2 0 0 (MQ below (zQv D cas ad M') args s 0 0 (zA ad)) 0 [(0, .ref (ad 215))] [] M)
  refine R_iconst X dX10_passDay_0 ?_
  refine R_istore_n X (lv' := [(1, .int (zI 0)), (0, .ref (ad 215))]) dX10_passDay_1 rfl (by decide) rfl ?_
  exact R_sub [1, 0] rfl (hB2 100000 0 M hf)
theorem dX10_movesIn_0 : decode cX10_movesIn 0 = .ok (.iload_n 1, 1) := by decide +kernel
theorem dX10_movesIn_1 : decode cX10_movesIn 1 = .ok (.invokestatic 74, 3) := by decide +kernel
theorem dX10_movesIn_4 : decode cX10_movesIn 4 = .ok (.ifCond .ne 5, 3) := by decide +kernel
theorem dX10_movesIn_7 : decode cX10_movesIn 7 = .ok (.iconst (-1), 1) := by decide +kernel
theorem dX10_movesIn_8 : decode cX10_movesIn 8 = .ok (.ireturn, 1) := by decide +kernel
theorem dX10_movesIn_9 : decode cX10_movesIn 9 = .ok (.aload_n 0, 1) := by decide +kernel
theorem dX10_movesIn_10 : decode cX10_movesIn 10 = .ok (.iconst 0, 1) := by decide +kernel
theorem dX10_movesIn_11 : decode cX10_movesIn 11 = .ok (.sipush 5226, 3) := by decide +kernel
theorem dX10_movesIn_14 : decode cX10_movesIn 14 = .ok (.invokevirtual 23, 3) := by decide +kernel
theorem dX10_movesIn_17 : decode cX10_movesIn 17 = .ok (.aload_n 0, 1) := by decide +kernel
theorem dX10_movesIn_18 : decode cX10_movesIn 18 = .ok (.getfield 7, 3) := by decide +kernel
theorem dX10_movesIn_21 : decode cX10_movesIn 21 = .ok (.sipush 448, 3) := by decide +kernel
theorem dX10_movesIn_24 : decode cX10_movesIn 24 = .ok (.iload_n 1, 1) := by decide +kernel
theorem dX10_movesIn_25 : decode cX10_movesIn 25 = .ok (.iadd, 1) := by decide +kernel
theorem dX10_movesIn_26 : decode cX10_movesIn 26 = .ok (.iaload, 1) := by decide +kernel
theorem dX10_movesIn_27 : decode cX10_movesIn 27 = .ok (.istore_n 2, 1) := by decide +kernel
theorem dX10_movesIn_28 : decode cX10_movesIn 28 = .ok (.iconst 0, 1) := by decide +kernel
theorem dX10_movesIn_29 : decode cX10_movesIn 29 = .ok (.istore_n 3, 1) := by decide +kernel
theorem dX10_movesIn_30 : decode cX10_movesIn 30 = .ok (.iload_n 3, 1) := by decide +kernel
theorem dX10_movesIn_31 : decode cX10_movesIn 31 = .ok (.bipush 60, 2) := by decide +kernel
theorem dX10_movesIn_33 : decode cX10_movesIn 33 = .ok (.if_icmp .ge 27, 3) := by decide +kernel
theorem dX10_movesIn_36 : decode cX10_movesIn 36 = .ok (.aload_n 0, 1) := by decide +kernel
theorem dX10_movesIn_37 : decode cX10_movesIn 37 = .ok (.getfield 7, 3) := by decide +kernel
theorem dX10_movesIn_40 : decode cX10_movesIn 40 = .ok (.sipush 448, 3) := by decide +kernel
theorem dX10_movesIn_43 : decode cX10_movesIn 43 = .ok (.iload_n 1, 1) := by decide +kernel
theorem dX10_movesIn_44 : decode cX10_movesIn 44 = .ok (.iadd, 1) := by decide +kernel
theorem dX10_movesIn_45 : decode cX10_movesIn 45 = .ok (.iaload, 1) := by decide +kernel
theorem dX10_movesIn_46 : decode cX10_movesIn 46 = .ok (.iload_n 2, 1) := by decide +kernel
theorem dX10_movesIn_47 : decode cX10_movesIn 47 = .ok (.if_icmp .ne 13, 3) := by decide +kernel
theorem dX10_movesIn_50 : decode cX10_movesIn 50 = .ok (.aload_n 0, 1) := by decide +kernel
theorem dX10_movesIn_51 : decode cX10_movesIn 51 = .ok (.invokevirtual 110, 3) := by decide +kernel
theorem dX10_movesIn_54 : decode cX10_movesIn 54 = .ok (.iinc 3 1, 3) := by decide +kernel
theorem dX10_movesIn_57 : decode cX10_movesIn 57 = .ok (.goto (-27), 3) := by decide +kernel
theorem dX10_movesIn_60 : decode cX10_movesIn 60 = .ok (.aload_n 0, 1) := by decide +kernel
theorem dX10_movesIn_61 : decode cX10_movesIn 61 = .ok (.getfield 7, 3) := by decide +kernel
theorem dX10_movesIn_64 : decode cX10_movesIn 64 = .ok (.sipush 448, 3) := by decide +kernel
theorem dX10_movesIn_67 : decode cX10_movesIn 67 = .ok (.iload_n 1, 1) := by decide +kernel
theorem dX10_movesIn_68 : decode cX10_movesIn 68 = .ok (.iadd, 1) := by decide +kernel
theorem dX10_movesIn_69 : decode cX10_movesIn 69 = .ok (.iaload, 1) := by decide +kernel
theorem dX10_movesIn_70 : decode cX10_movesIn 70 = .ok (.iload_n 2, 1) := by decide +kernel
theorem dX10_movesIn_71 : decode cX10_movesIn 71 = .ok (.if_icmp .eq 7, 3) := by decide +kernel
theorem dX10_movesIn_74 : decode cX10_movesIn 74 = .ok (.iconst 1, 1) := by decide +kernel
theorem dX10_movesIn_75 : decode cX10_movesIn 75 = .ok (.goto 4, 3) := by decide +kernel
theorem dX10_movesIn_78 : decode cX10_movesIn 78 = .ok (.iconst 0, 1) := by decide +kernel
theorem dX10_movesIn_79 : decode cX10_movesIn 79 = .ok (.istore 4, 2) := by decide +kernel
theorem dX10_movesIn_81 : decode cX10_movesIn 81 = .ok (.aload_n 0, 1) := by decide +kernel
theorem dX10_movesIn_82 : decode cX10_movesIn 82 = .ok (.sipush 5226, 3) := by decide +kernel
theorem dX10_movesIn_85 : decode cX10_movesIn 85 = .ok (.iconst 0, 1) := by decide +kernel
theorem dX10_movesIn_86 : decode cX10_movesIn 86 = .ok (.invokevirtual 23, 3) := by decide +kernel
theorem dX10_movesIn_89 : decode cX10_movesIn 89 = .ok (.iload 4, 2) := by decide +kernel
theorem dX10_movesIn_91 : decode cX10_movesIn 91 = .ok (.ifCond .eq 7, 3) := by decide +kernel
theorem dX10_movesIn_94 : decode cX10_movesIn 94 = .ok (.iload_n 3, 1) := by decide +kernel
theorem dX10_movesIn_95 : decode cX10_movesIn 95 = .ok (.goto 5, 3) := by decide +kernel
theorem dX10_movesIn_98 : decode cX10_movesIn 98 = .ok (.bipush (-5), 2) := by decide +kernel
theorem dX10_movesIn_100 : decode cX10_movesIn 100 = .ok (.ireturn, 1) := by decide +kernel
set_option maxRecDepth 100000 in
set_option maxHeartbeats 4000000 in
theorem c_X10_movesIn (l : Launch) (D : va_G) (cas : Nat → ClassId) (ad : Nat → Nat) (hi : zInj ad) {v1 : Int}  {r : Int} {M M' : Mem} (hf : f_X10_movesIn v1 M = some (r, M')) : zMi l D cas ad yX10_movesIn cX10_movesIn 5 (some .int) 6 132 [.ref (ad 215), .int (zI v1)] M r M' := by
  refine zbody (by decide) (Nat.le_of_ble_eq_true rfl) hi ?_
  intro p e s m args below meth c X hr hk0
  have X : zX p s m args c cX10_movesIn "ShardTrailsModel" 5 D cas ad (zA ad) := X
  have hB100 : ∀ (t1 : Int) (M : Mem), f_X10_movesIn_b100 t1 M = some (r, M') → WW p l e (zrm 6 132) s m args below meth c D cas ad (zA ad) 5 0 0 (MQ below (zQi D cas ad r M') args s 0 0 (zA ad)) 100 [] [.int (zI t1)] M := by
    intro t1 M hf
    unfold f_X10_movesIn_b100 at hf
    exact R_iret X hr hk0 dX10_movesIn_100 hf
  have hB79 : ∀ (v3 t1 : Int) (M : Mem), f_X10_movesIn_b79 v3 t1 M = some (r, M') → WW p l e (zrm 6 132) s m args below meth c D cas ad (zA ad) 5 0 0 (MQ below (zQi D cas ad r M') args s 0 0 (zA ad)) 79 [(0, .ref (ad 215)), (3, .int (zI v3))] [.int (zI t1)] M := by
    intro v3 t1 M hf
    unfold f_X10_movesIn_b79 at hf
    refine R_istore X (lv' := [(4, .int (zI t1)), (0, .ref (ad 215)), (3, .int (zI v3))]) dX10_movesIn_79 (by decide) rfl ?_
    refine R_aload_n X 1 dX10_movesIn_81 rfl rfl ?_
    refine R_sipush X dX10_movesIn_82 (by decide +kernel) ?_
    refine R_iconst X dX10_movesIn_85 ?_
    obtain ⟨r24, M25, hc26, hf⟩ := zbnd_some hf
    refine R_callVv X (av := [.int (zI 5226), .int (zI 0)]) (rest := []) (c_X10_copy l D cas ad hi hc26) zy_X10_copy lc_215 rfl rfl wm_X10_23 rfl rfl ⟨Nat.le_of_ble_eq_true rfl, Nat.le_of_ble_eq_true rfl⟩ ⟨Nat.le_refl _, Nat.le_refl _⟩ (Nat.le_of_ble_eq_true rfl) dX10_movesIn_86 ?_
    refine R_iload X 0 dX10_movesIn_89 rfl ?_
    obtain ⟨hq27, hf⟩ := zgrd hf
    refine R_if_eq X 98 hq27 dX10_movesIn_91 (by decide) (fun c28 => ?_) (fun c28 => ?_)
    · have hf := zthen hf c28
      refine R_bipush X dX10_movesIn_98 (by decide +kernel) ?_
      exact R_sub [] rfl (hB100 (-5) M25 hf)
    · have hf := zelse hf c28
      refine R_iload_n X 2 dX10_movesIn_94 rfl rfl ?_
      refine R_goto X 100 dX10_movesIn_95 (by decide) ?_
      exact R_sub [] rfl (hB100 v3 M25 hf)
  have hB60 : ∀ (v1 v2 v3 : Int) (M : Mem), f_X10_movesIn_b60 v1 v2 v3 M = some (r, M') → WW p l e (zrm 6 132) s m args below meth c D cas ad (zA ad) 5 0 0 (MQ below (zQi D cas ad r M') args s 0 0 (zA ad)) 60 [(0, .ref (ad 215)), (1, .int (zI v1)), (2, .int (zI v2)), (3, .int (zI v3))] [] M := by
    intro v1 v2 v3 M hf
    unfold f_X10_movesIn_b60 at hf
    refine R_aload_n X 0 dX10_movesIn_60 rfl rfl ?_
    refine R_getR X (j := 0) 1 216 lc_215 rfl inX10 (by decide) rfl rfl (by decide) rfl rfl wf_X10_7 dX10_movesIn_61 ?_
    refine R_sipush X dX10_movesIn_64 (by decide +kernel) ?_
    refine R_iload_n X 1 dX10_movesIn_67 rfl rfl ?_
    refine R_iadd X dX10_movesIn_68 ?_
    obtain ⟨hq20, hf⟩ := zgrd hf
    refine R_iald X lc_216 hq20 dX10_movesIn_69 ?_
    refine R_iload_n X 2 dX10_movesIn_70 rfl rfl ?_
    obtain ⟨hq21, hf⟩ := zgrd hf
    obtain ⟨hq22, hf⟩ := zgrd hf
    refine R_icmp_eq X 78 ⟨hq21, hq22⟩ dX10_movesIn_71 (by decide) (fun c23 => ?_) (fun c23 => ?_)
    · have hf := zthen hf c23
      refine R_iconst X dX10_movesIn_78 ?_
      exact R_sub [0, 3] rfl (hB79 v3 0 M hf)
    · have hf := zelse hf c23
      refine R_iconst X dX10_movesIn_74 ?_
      refine R_goto X 79 dX10_movesIn_75 (by decide) ?_
      exact R_sub [0, 3] rfl (hB79 v3 1 M hf)
  have hB30 : ∀ (n : Nat) (v1 v2 v3 : Int) (M : Mem), f_X10_movesIn_b30 n v1 v2 v3 M = some (r, M') → WW p l e (zrm 6 132) s m args below meth c D cas ad (zA ad) 5 0 0 (MQ below (zQi D cas ad r M') args s 0 0 (zA ad)) 30 [(0, .ref (ad 215)), (1, .int (zI v1)), (2, .int (zI v2)), (3, .int (zI v3))] [] M := by
    intro n
    induction n with
    | zero => intro v1 v2 v3 M hf; exact absurd hf (by unfold f_X10_movesIn_b30; simp)
    | succ n ih =>
      intro v1 v2 v3 M hf
      unfold f_X10_movesIn_b30 at hf
      refine R_iload_n X 3 dX10_movesIn_30 rfl rfl ?_
      refine R_bipush X dX10_movesIn_31 (by decide +kernel) ?_
      obtain ⟨hq11, hf⟩ := zgrd hf
      refine R_icmp_ge X 60 ⟨hq11, (by decide)⟩ dX10_movesIn_33 (by decide) (fun c19 => ?_) (fun c19 => ?_)
      · have hf := zthen hf c19
        exact R_sub [0, 1, 2, 3] rfl (hB60 v1 v2 v3 M hf)
      · have hf := zelse hf c19
        refine R_aload_n X 0 dX10_movesIn_36 rfl rfl ?_
        refine R_getR X (j := 0) 1 216 lc_215 rfl inX10 (by decide) rfl rfl (by decide) rfl rfl wf_X10_7 dX10_movesIn_37 ?_
        refine R_sipush X dX10_movesIn_40 (by decide +kernel) ?_
        refine R_iload_n X 1 dX10_movesIn_43 rfl rfl ?_
        refine R_iadd X dX10_movesIn_44 ?_
        obtain ⟨hq12, hf⟩ := zgrd hf
        refine R_iald X lc_216 hq12 dX10_movesIn_45 ?_
        refine R_iload_n X 2 dX10_movesIn_46 rfl rfl ?_
        obtain ⟨hq13, hf⟩ := zgrd hf
        obtain ⟨hq14, hf⟩ := zgrd hf
        refine R_icmp_ne X 60 ⟨hq13, hq14⟩ dX10_movesIn_47 (by decide) (fun c18 => ?_) (fun c18 => ?_)
        · have hf := zelse hf c18
          exact R_sub [0, 1, 2, 3] rfl (hB60 v1 v2 v3 M hf)
        · have hf := zthen hf c18
          refine R_aload_n X 0 dX10_movesIn_50 rfl rfl ?_
          obtain ⟨r15, M16, hc17, hf⟩ := zbnd_some hf
          refine R_callVv X (av := []) (rest := []) (c_X10_passDay l D cas ad hi hc17) zy_X10_passDay lc_215 rfl rfl wm_X10_110 rfl rfl ⟨Nat.le_of_ble_eq_true rfl, Nat.le_of_ble_eq_true rfl⟩ ⟨Nat.le_refl _, Nat.le_refl _⟩ (Nat.le_of_ble_eq_true rfl) dX10_movesIn_51 ?_
          refine R_iinc X (lv' := [(3, .int (zI (v3 + 1))), (0, .ref (ad 215)), (1, .int (zI v1)), (2, .int (zI v2))]) 3 dX10_movesIn_54 rfl (by decide) rfl ?_
          refine R_goto X 30 dX10_movesIn_57 (by decide) ?_
          exact R_sub [1, 2, 3, 0] rfl (ih v1 v2 (v3 + 1) M16 hf)
  unfold f_X10_movesIn at hf
  refine (?_ : WW p l e (zrm 6 132) s m args below meth c D cas ad (zA ad) 5 0 0 (MQ below (zQi D cas ad r M') args s 0 0 (zA ad)) 0 [(0, .ref (ad 215)), (1, .int (zI v1))] [] M)
  refine R_iload_n X 1 dX10_movesIn_0 rfl rfl ?_
  obtain ⟨r1, M2, hc3, hf⟩ := zbnd_some hf
  refine R_callSi X (av := [.int (zI v1)]) (rest := []) (c_X10_isShard l D cas ad hi hc3) zy_X10_isShard wm_X10_74 rfl rfl ⟨Nat.le_of_ble_eq_true rfl, Nat.le_of_ble_eq_true rfl⟩ ⟨Nat.le_refl _, Nat.le_refl _⟩ (Nat.le_of_ble_eq_true rfl) dX10_movesIn_1 ?_
  obtain ⟨hq4, hf⟩ := zgrd hf
  refine R_if_ne X 9 hq4 dX10_movesIn_4 (by decide) (fun c10 => ?_) (fun c10 => ?_)
  · have hf := zelse hf c10
    refine R_aload_n X 0 dX10_movesIn_9 rfl rfl ?_
    refine R_iconst X dX10_movesIn_10 ?_
    refine R_sipush X dX10_movesIn_11 (by decide +kernel) ?_
    obtain ⟨r5, M6, hc7, hf⟩ := zbnd_some hf
    refine R_callVv X (av := [.int (zI 0), .int (zI 5226)]) (rest := []) (c_X10_copy l D cas ad hi hc7) zy_X10_copy lc_215 rfl rfl wm_X10_23 rfl rfl ⟨Nat.le_of_ble_eq_true rfl, Nat.le_of_ble_eq_true rfl⟩ ⟨Nat.le_refl _, Nat.le_refl _⟩ (Nat.le_of_ble_eq_true rfl) dX10_movesIn_14 ?_
    refine R_aload_n X 0 dX10_movesIn_17 rfl rfl ?_
    refine R_getR X (j := 0) 1 216 lc_215 rfl inX10 (by decide) rfl rfl (by decide) rfl rfl wf_X10_7 dX10_movesIn_18 ?_
    refine R_sipush X dX10_movesIn_21 (by decide +kernel) ?_
    refine R_iload_n X 1 dX10_movesIn_24 rfl rfl ?_
    refine R_iadd X dX10_movesIn_25 ?_
    obtain ⟨hq8, hf⟩ := zgrd hf
    refine R_iald X lc_216 hq8 dX10_movesIn_26 ?_
    obtain ⟨x9, ex9, hf⟩ := zlt_some hf
    refine R_istore_nX X (lv' := [(2, .int (zI x9)), (0, .ref (ad 215)), (1, .int (zI v1))]) ex9 dX10_movesIn_27 rfl (by decide) rfl ?_
    refine R_iconst X dX10_movesIn_28 ?_
    refine R_istore_n X (lv' := [(3, .int (zI 0)), (2, .int (zI x9)), (0, .ref (ad 215)), (1, .int (zI v1))]) dX10_movesIn_29 rfl (by decide) rfl ?_
    exact R_sub [2, 3, 1, 0] rfl (hB30 100000 v1 x9 0 M6 hf)
  · have hf := zthen hf c10
    refine R_iconst X dX10_movesIn_7 ?_
    exact R_iret X hr hk0 dX10_movesIn_8 hf
theorem dX10_pass_0 : decode cX10_pass 0 = .ok (.iload_n 1, 1) := by decide +kernel
theorem dX10_pass_1 : decode cX10_pass 1 = .ok (.iconst 1, 1) := by decide +kernel
theorem dX10_pass_2 : decode cX10_pass 2 = .ok (.bipush 60, 2) := by decide +kernel
theorem dX10_pass_4 : decode cX10_pass 4 = .ok (.invokestatic 34, 3) := by decide +kernel
theorem dX10_pass_7 : decode cX10_pass 7 = .ok (.ifCond .ne 6, 3) := by decide +kernel
theorem dX10_pass_10 : decode cX10_pass 10 = .ok (.bipush (-2), 2) := by decide +kernel
theorem dX10_pass_12 : decode cX10_pass 12 = .ok (.ireturn, 1) := by decide +kernel
theorem dX10_pass_13 : decode cX10_pass 13 = .ok (.aload_n 0, 1) := by decide +kernel
theorem dX10_pass_14 : decode cX10_pass 14 = .ok (.getfield 7, 3) := by decide +kernel
theorem dX10_pass_17 : decode cX10_pass 17 = .ok (.sipush 862, 3) := by decide +kernel
theorem dX10_pass_20 : decode cX10_pass 20 = .ok (.iaload, 1) := by decide +kernel
theorem dX10_pass_21 : decode cX10_pass 21 = .ok (.iload_n 1, 1) := by decide +kernel
theorem dX10_pass_22 : decode cX10_pass 22 = .ok (.iadd, 1) := by decide +kernel
theorem dX10_pass_23 : decode cX10_pass 23 = .ok (.sipush 9999, 3) := by decide +kernel
theorem dX10_pass_26 : decode cX10_pass 26 = .ok (.if_icmp .le 6, 3) := by decide +kernel
theorem dX10_pass_29 : decode cX10_pass 29 = .ok (.bipush (-4), 2) := by decide +kernel
theorem dX10_pass_31 : decode cX10_pass 31 = .ok (.ireturn, 1) := by decide +kernel
theorem dX10_pass_32 : decode cX10_pass 32 = .ok (.aload_n 0, 1) := by decide +kernel
theorem dX10_pass_33 : decode cX10_pass 33 = .ok (.invokevirtual 31, 3) := by decide +kernel
theorem dX10_pass_36 : decode cX10_pass 36 = .ok (.aload_n 0, 1) := by decide +kernel
theorem dX10_pass_37 : decode cX10_pass 37 = .ok (.getfield 7, 3) := by decide +kernel
theorem dX10_pass_40 : decode cX10_pass 40 = .ok (.sipush 866, 3) := by decide +kernel
theorem dX10_pass_43 : decode cX10_pass 43 = .ok (.iaload, 1) := by decide +kernel
theorem dX10_pass_44 : decode cX10_pass 44 = .ok (.istore_n 2, 1) := by decide +kernel
theorem dX10_pass_45 : decode cX10_pass 45 = .ok (.iconst 0, 1) := by decide +kernel
theorem dX10_pass_46 : decode cX10_pass 46 = .ok (.istore_n 3, 1) := by decide +kernel
theorem dX10_pass_47 : decode cX10_pass 47 = .ok (.iload_n 3, 1) := by decide +kernel
theorem dX10_pass_48 : decode cX10_pass 48 = .ok (.iload_n 1, 1) := by decide +kernel
theorem dX10_pass_49 : decode cX10_pass 49 = .ok (.if_icmp .ge 13, 3) := by decide +kernel
theorem dX10_pass_52 : decode cX10_pass 52 = .ok (.aload_n 0, 1) := by decide +kernel
theorem dX10_pass_53 : decode cX10_pass 53 = .ok (.invokevirtual 110, 3) := by decide +kernel
theorem dX10_pass_56 : decode cX10_pass 56 = .ok (.iinc 3 1, 3) := by decide +kernel
theorem dX10_pass_59 : decode cX10_pass 59 = .ok (.goto (-12), 3) := by decide +kernel
theorem dX10_pass_62 : decode cX10_pass 62 = .ok (.aload_n 0, 1) := by decide +kernel
theorem dX10_pass_63 : decode cX10_pass 63 = .ok (.getfield 7, 3) := by decide +kernel
theorem dX10_pass_66 : decode cX10_pass 66 = .ok (.sipush 866, 3) := by decide +kernel
theorem dX10_pass_69 : decode cX10_pass 69 = .ok (.iaload, 1) := by decide +kernel
theorem dX10_pass_70 : decode cX10_pass 70 = .ok (.iload_n 2, 1) := by decide +kernel
theorem dX10_pass_71 : decode cX10_pass 71 = .ok (.isub, 1) := by decide +kernel
theorem dX10_pass_72 : decode cX10_pass 72 = .ok (.ireturn, 1) := by decide +kernel
set_option maxRecDepth 100000 in
set_option maxHeartbeats 4000000 in
theorem c_X10_pass (l : Launch) (D : va_G) (cas : Nat → ClassId) (ad : Nat → Nat) (hi : zInj ad) {v1 : Int}  {r : Int} {M M' : Mem} (hf : f_X10_pass v1 M = some (r, M')) : zMi l D cas ad yX10_pass cX10_pass 4 (some .int) 6 132 [.ref (ad 215), .int (zI v1)] M r M' := by
  refine zbody (by decide) (Nat.le_of_ble_eq_true rfl) hi ?_
  intro p e s m args below meth c X hr hk0
  have X : zX p s m args c cX10_pass "ShardTrailsModel" 4 D cas ad (zA ad) := X
  have hB47 : ∀ (n : Nat) (v1 v2 v3 : Int) (M : Mem), f_X10_pass_b47 n v1 v2 v3 M = some (r, M') → WW p l e (zrm 6 132) s m args below meth c D cas ad (zA ad) 4 0 0 (MQ below (zQi D cas ad r M') args s 0 0 (zA ad)) 47 [(0, .ref (ad 215)), (1, .int (zI v1)), (2, .int (zI v2)), (3, .int (zI v3))] [] M := by
    intro n
    induction n with
    | zero => intro v1 v2 v3 M hf; exact absurd hf (by unfold f_X10_pass_b47; simp)
    | succ n ih =>
      intro v1 v2 v3 M hf
      unfold f_X10_pass_b47 at hf
      refine R_iload_n X 3 dX10_pass_47 rfl rfl ?_
      refine R_iload_n X 1 dX10_pass_48 rfl rfl ?_
      obtain ⟨hq12, hf⟩ := zgrd hf
      obtain ⟨hq13, hf⟩ := zgrd hf
      refine R_icmp_ge X 62 ⟨hq12, hq13⟩ dX10_pass_49 (by decide) (fun c17 => ?_) (fun c17 => ?_)
      · have hf := zthen hf c17
        refine R_aload_n X 0 dX10_pass_62 rfl rfl ?_
        refine R_getR X (j := 0) 1 216 lc_215 rfl inX10 (by decide) rfl rfl (by decide) rfl rfl wf_X10_7 dX10_pass_63 ?_
        refine R_sipush X dX10_pass_66 (by decide +kernel) ?_
        refine R_iald X lc_216 (by decide) dX10_pass_69 ?_
        refine R_iload_n X 2 dX10_pass_70 rfl rfl ?_
        refine R_isub X dX10_pass_71 ?_
        exact R_iret X hr hk0 dX10_pass_72 hf
      · have hf := zelse hf c17
        refine R_aload_n X 0 dX10_pass_52 rfl rfl ?_
        obtain ⟨r14, M15, hc16, hf⟩ := zbnd_some hf
        refine R_callVv X (av := []) (rest := []) (c_X10_passDay l D cas ad hi hc16) zy_X10_passDay lc_215 rfl rfl wm_X10_110 rfl rfl ⟨Nat.le_of_ble_eq_true rfl, Nat.le_of_ble_eq_true rfl⟩ ⟨Nat.le_refl _, Nat.le_refl _⟩ (Nat.le_of_ble_eq_true rfl) dX10_pass_53 ?_
        refine R_iinc X (lv' := [(3, .int (zI (v3 + 1))), (0, .ref (ad 215)), (1, .int (zI v1)), (2, .int (zI v2))]) 3 dX10_pass_56 rfl (by decide) rfl ?_
        refine R_goto X 47 dX10_pass_59 (by decide) ?_
        exact R_sub [1, 2, 3, 0] rfl (ih v1 v2 (v3 + 1) M15 hf)
  unfold f_X10_pass at hf
  refine (?_ : WW p l e (zrm 6 132) s m args below meth c D cas ad (zA ad) 4 0 0 (MQ below (zQi D cas ad r M') args s 0 0 (zA ad)) 0 [(0, .ref (ad 215)), (1, .int (zI v1))] [] M)
  refine R_iload_n X 1 dX10_pass_0 rfl rfl ?_
  refine R_iconst X dX10_pass_1 ?_
  refine R_bipush X dX10_pass_2 (by decide +kernel) ?_
  obtain ⟨r1, M2, hc3, hf⟩ := zbnd_some hf
  refine R_callSi X (av := [.int (zI v1), .int (zI 1), .int (zI 60)]) (rest := []) (c_X10_in l D cas ad hi hc3) zy_X10_in wm_X10_34 rfl rfl ⟨Nat.le_of_ble_eq_true rfl, Nat.le_of_ble_eq_true rfl⟩ ⟨Nat.le_refl _, Nat.le_refl _⟩ (Nat.le_of_ble_eq_true rfl) dX10_pass_4 ?_
  obtain ⟨hq4, hf⟩ := zgrd hf
  refine R_if_ne X 13 hq4 dX10_pass_7 (by decide) (fun c11 => ?_) (fun c11 => ?_)
  · have hf := zelse hf c11
    refine R_aload_n X 0 dX10_pass_13 rfl rfl ?_
    refine R_getR X (j := 0) 1 216 lc_215 rfl inX10 (by decide) rfl rfl (by decide) rfl rfl wf_X10_7 dX10_pass_14 ?_
    refine R_sipush X dX10_pass_17 (by decide +kernel) ?_
    refine R_iald X lc_216 (by decide) dX10_pass_20 ?_
    refine R_iload_n X 1 dX10_pass_21 rfl rfl ?_
    refine R_iadd X dX10_pass_22 ?_
    refine R_sipush X dX10_pass_23 (by decide +kernel) ?_
    obtain ⟨hq5, hf⟩ := zgrd hf
    refine R_icmp_le X 32 ⟨hq5, (by decide)⟩ dX10_pass_26 (by decide) (fun c10 => ?_) (fun c10 => ?_)
    · have hf := zthen hf c10
      refine R_aload_n X 0 dX10_pass_32 rfl rfl ?_
      obtain ⟨r6, M7, hc8, hf⟩ := zbnd_some hf
      refine R_callVv X (av := []) (rest := []) (c_X10_record l D cas ad hi hc8) zy_X10_record lc_215 rfl rfl wm_X10_31 rfl rfl ⟨Nat.le_of_ble_eq_true rfl, Nat.le_of_ble_eq_true rfl⟩ ⟨Nat.le_refl _, Nat.le_refl _⟩ (Nat.le_of_ble_eq_true rfl) dX10_pass_33 ?_
      refine R_aload_n X 0 dX10_pass_36 rfl rfl ?_
      refine R_getR X (j := 0) 1 216 lc_215 rfl inX10 (by decide) rfl rfl (by decide) rfl rfl wf_X10_7 dX10_pass_37 ?_
      refine R_sipush X dX10_pass_40 (by decide +kernel) ?_
      refine R_iald X lc_216 (by decide) dX10_pass_43 ?_
      obtain ⟨x9, ex9, hf⟩ := zlt_some hf
      refine R_istore_nX X (lv' := [(2, .int (zI x9)), (0, .ref (ad 215)), (1, .int (zI v1))]) ex9 dX10_pass_44 rfl (by decide) rfl ?_
      refine R_iconst X dX10_pass_45 ?_
      refine R_istore_n X (lv' := [(3, .int (zI 0)), (2, .int (zI x9)), (0, .ref (ad 215)), (1, .int (zI v1))]) dX10_pass_46 rfl (by decide) rfl ?_
      exact R_sub [2, 3, 1, 0] rfl (hB47 100000 v1 x9 0 M7 hf)
    · have hf := zelse hf c10
      refine R_bipush X dX10_pass_29 (by decide +kernel) ?_
      exact R_iret X hr hk0 dX10_pass_31 hf
  · have hf := zthen hf c11
    refine R_bipush X dX10_pass_10 (by decide +kernel) ?_
    exact R_iret X hr hk0 dX10_pass_12 hf
theorem dX10_wolvesIn_0 : decode cX10_wolvesIn 0 = .ok (.iconst 0, 1) := by decide +kernel
theorem dX10_wolvesIn_1 : decode cX10_wolvesIn 1 = .ok (.istore_n 2, 1) := by decide +kernel
theorem dX10_wolvesIn_2 : decode cX10_wolvesIn 2 = .ok (.iconst 0, 1) := by decide +kernel
theorem dX10_wolvesIn_3 : decode cX10_wolvesIn 3 = .ok (.istore_n 3, 1) := by decide +kernel
theorem dX10_wolvesIn_4 : decode cX10_wolvesIn 4 = .ok (.iload_n 3, 1) := by decide +kernel
theorem dX10_wolvesIn_5 : decode cX10_wolvesIn 5 = .ok (.aload_n 0, 1) := by decide +kernel
theorem dX10_wolvesIn_6 : decode cX10_wolvesIn 6 = .ok (.getfield 7, 3) := by decide +kernel
theorem dX10_wolvesIn_9 : decode cX10_wolvesIn 9 = .ok (.sipush 864, 3) := by decide +kernel
theorem dX10_wolvesIn_12 : decode cX10_wolvesIn 12 = .ok (.iaload, 1) := by decide +kernel
theorem dX10_wolvesIn_13 : decode cX10_wolvesIn 13 = .ok (.if_icmp .ge 33, 3) := by decide +kernel
theorem dX10_wolvesIn_16 : decode cX10_wolvesIn 16 = .ok (.iload_n 2, 1) := by decide +kernel
theorem dX10_wolvesIn_17 : decode cX10_wolvesIn 17 = .ok (.aload_n 0, 1) := by decide +kernel
theorem dX10_wolvesIn_18 : decode cX10_wolvesIn 18 = .ok (.getfield 7, 3) := by decide +kernel
theorem dX10_wolvesIn_21 : decode cX10_wolvesIn 21 = .ok (.sipush 720, 3) := by decide +kernel
theorem dX10_wolvesIn_24 : decode cX10_wolvesIn 24 = .ok (.iconst 2, 1) := by decide +kernel
theorem dX10_wolvesIn_25 : decode cX10_wolvesIn 25 = .ok (.iload_n 3, 1) := by decide +kernel
theorem dX10_wolvesIn_26 : decode cX10_wolvesIn 26 = .ok (.imul, 1) := by decide +kernel
theorem dX10_wolvesIn_27 : decode cX10_wolvesIn 27 = .ok (.iadd, 1) := by decide +kernel
theorem dX10_wolvesIn_28 : decode cX10_wolvesIn 28 = .ok (.iaload, 1) := by decide +kernel
theorem dX10_wolvesIn_29 : decode cX10_wolvesIn 29 = .ok (.iload_n 1, 1) := by decide +kernel
theorem dX10_wolvesIn_30 : decode cX10_wolvesIn 30 = .ok (.if_icmp .ne 7, 3) := by decide +kernel
theorem dX10_wolvesIn_33 : decode cX10_wolvesIn 33 = .ok (.iconst 1, 1) := by decide +kernel
theorem dX10_wolvesIn_34 : decode cX10_wolvesIn 34 = .ok (.goto 4, 3) := by decide +kernel
theorem dX10_wolvesIn_37 : decode cX10_wolvesIn 37 = .ok (.iconst 0, 1) := by decide +kernel
theorem dX10_wolvesIn_38 : decode cX10_wolvesIn 38 = .ok (.iadd, 1) := by decide +kernel
theorem dX10_wolvesIn_39 : decode cX10_wolvesIn 39 = .ok (.istore_n 2, 1) := by decide +kernel
theorem dX10_wolvesIn_40 : decode cX10_wolvesIn 40 = .ok (.iinc 3 1, 3) := by decide +kernel
theorem dX10_wolvesIn_43 : decode cX10_wolvesIn 43 = .ok (.goto (-39), 3) := by decide +kernel
theorem dX10_wolvesIn_46 : decode cX10_wolvesIn 46 = .ok (.iload_n 2, 1) := by decide +kernel
theorem dX10_wolvesIn_47 : decode cX10_wolvesIn 47 = .ok (.ireturn, 1) := by decide +kernel
set_option maxRecDepth 100000 in
set_option maxHeartbeats 4000000 in
theorem c_X10_wolvesIn (l : Launch) (D : va_G) (cas : Nat → ClassId) (ad : Nat → Nat) (hi : zInj ad) {v1 : Int}  {r : Int} {M M' : Mem} (hf : f_X10_wolvesIn v1 M = some (r, M')) : zMi l D cas ad yX10_wolvesIn cX10_wolvesIn 4 (some .int) 0 0 [.ref (ad 215), .int (zI v1)] M r M' := by
  refine zbody (by decide) (Nat.le_of_ble_eq_true rfl) hi ?_
  intro p e s m args below meth c X hr hk0
  have X : zX p s m args c cX10_wolvesIn "ShardTrailsModel" 4 D cas ad (zA ad) := X
  have hB38 : ∀ (g4 : Int → Int → Int → Mem → Option (Int × Mem)) (hg4 : ∀ (v1 v2 v3 : Int) (M : Mem), g4 v1 v2 v3 M = some (r, M') → WW p l e (zrm 0 0) s m args below meth c D cas ad (zA ad) 4 0 0 (MQ below (zQi D cas ad r M') args s 0 0 (zA ad)) 4 [(0, .ref (ad 215)), (1, .int (zI v1)), (2, .int (zI v2)), (3, .int (zI v3))] [] M) (v1 v3 t2 t1 : Int) (M : Mem), f_X10_wolvesIn_b38 g4 v1 v3 t2 t1 M = some (r, M') → WW p l e (zrm 0 0) s m args below meth c D cas ad (zA ad) 4 0 0 (MQ below (zQi D cas ad r M') args s 0 0 (zA ad)) 38 [(0, .ref (ad 215)), (1, .int (zI v1)), (3, .int (zI v3))] [.int (zI t2), .int (zI t1)] M := by
    intro g4 hg4 v1 v3 t2 t1 M hf
    unfold f_X10_wolvesIn_b38 at hf
    refine R_iadd X dX10_wolvesIn_38 ?_
    obtain ⟨x8, ex8, hf⟩ := zlt_some hf
    refine R_istore_nX X (lv' := [(2, .int (zI x8)), (0, .ref (ad 215)), (1, .int (zI v1)), (3, .int (zI v3))]) ex8 dX10_wolvesIn_39 rfl (by decide) rfl ?_
    refine R_iinc X (lv' := [(3, .int (zI (v3 + 1))), (2, .int (zI x8)), (0, .ref (ad 215)), (1, .int (zI v1))]) 3 dX10_wolvesIn_40 rfl (by decide) rfl ?_
    refine R_goto X 4 dX10_wolvesIn_43 (by decide) ?_
    exact R_sub [2, 3, 1, 0] rfl (hg4 v1 x8 (v3 + 1) M hf)
  have hB4 : ∀ (n : Nat) (v1 v2 v3 : Int) (M : Mem), f_X10_wolvesIn_b4 n v1 v2 v3 M = some (r, M') → WW p l e (zrm 0 0) s m args below meth c D cas ad (zA ad) 4 0 0 (MQ below (zQi D cas ad r M') args s 0 0 (zA ad)) 4 [(0, .ref (ad 215)), (1, .int (zI v1)), (2, .int (zI v2)), (3, .int (zI v3))] [] M := by
    intro n
    induction n with
    | zero => intro v1 v2 v3 M hf; exact absurd hf (by unfold f_X10_wolvesIn_b4; simp)
    | succ n ih =>
      intro v1 v2 v3 M hf
      unfold f_X10_wolvesIn_b4 at hf
      refine R_iload_n X 3 dX10_wolvesIn_4 rfl rfl ?_
      refine R_aload_n X 0 dX10_wolvesIn_5 rfl rfl ?_
      refine R_getR X (j := 0) 1 216 lc_215 rfl inX10 (by decide) rfl rfl (by decide) rfl rfl wf_X10_7 dX10_wolvesIn_6 ?_
      refine R_sipush X dX10_wolvesIn_9 (by decide +kernel) ?_
      refine R_iald X lc_216 (by decide) dX10_wolvesIn_12 ?_
      obtain ⟨hq1, hf⟩ := zgrd hf
      obtain ⟨hq2, hf⟩ := zgrd hf
      refine R_icmp_ge X 46 ⟨hq1, hq2⟩ dX10_wolvesIn_13 (by decide) (fun c7 => ?_) (fun c7 => ?_)
      · have hf := zthen hf c7
        refine R_iload_n X 2 dX10_wolvesIn_46 rfl rfl ?_
        exact R_iret X hr hk0 dX10_wolvesIn_47 hf
      · have hf := zelse hf c7
        refine R_iload_n X 2 dX10_wolvesIn_16 rfl rfl ?_
        refine R_aload_n X 0 dX10_wolvesIn_17 rfl rfl ?_
        refine R_getR X (j := 0) 1 216 lc_215 rfl inX10 (by decide) rfl rfl (by decide) rfl rfl wf_X10_7 dX10_wolvesIn_18 ?_
        refine R_sipush X dX10_wolvesIn_21 (by decide +kernel) ?_
        refine R_iconst X dX10_wolvesIn_24 ?_
        refine R_iload_n X 3 dX10_wolvesIn_25 rfl rfl ?_
        refine R_imul X dX10_wolvesIn_26 ?_
        refine R_iadd X dX10_wolvesIn_27 ?_
        obtain ⟨hq3, hf⟩ := zgrd hf
        refine R_iald X lc_216 hq3 dX10_wolvesIn_28 ?_
        refine R_iload_n X 1 dX10_wolvesIn_29 rfl rfl ?_
        obtain ⟨hq4, hf⟩ := zgrd hf
        obtain ⟨hq5, hf⟩ := zgrd hf
        refine R_icmp_ne X 37 ⟨hq4, hq5⟩ dX10_wolvesIn_30 (by decide) (fun c6 => ?_) (fun c6 => ?_)
        · have hf := zelse hf c6
          refine R_iconst X dX10_wolvesIn_37 ?_
          exact R_sub [0, 1, 3] rfl (hB38 (f_X10_wolvesIn_b4 n) ih v1 v3 0 v2 M hf)
        · have hf := zthen hf c6
          refine R_iconst X dX10_wolvesIn_33 ?_
          refine R_goto X 38 dX10_wolvesIn_34 (by decide) ?_
          exact R_sub [0, 1, 3] rfl (hB38 (f_X10_wolvesIn_b4 n) ih v1 v3 1 v2 M hf)
  unfold f_X10_wolvesIn at hf
  refine (?_ : WW p l e (zrm 0 0) s m args below meth c D cas ad (zA ad) 4 0 0 (MQ below (zQi D cas ad r M') args s 0 0 (zA ad)) 0 [(0, .ref (ad 215)), (1, .int (zI v1))] [] M)
  refine R_iconst X dX10_wolvesIn_0 ?_
  refine R_istore_n X (lv' := [(2, .int (zI 0)), (0, .ref (ad 215)), (1, .int (zI v1))]) dX10_wolvesIn_1 rfl (by decide) rfl ?_
  refine R_iconst X dX10_wolvesIn_2 ?_
  refine R_istore_n X (lv' := [(3, .int (zI 0)), (2, .int (zI 0)), (0, .ref (ad 215)), (1, .int (zI v1))]) dX10_wolvesIn_3 rfl (by decide) rfl ?_
  exact R_sub [2, 3, 1, 0] rfl (hB4 100000 v1 0 0 M hf)
theorem dX10_pasture_0 : decode cX10_pasture 0 = .ok (.aload_n 0, 1) := by decide +kernel
theorem dX10_pasture_1 : decode cX10_pasture 1 = .ok (.iload_n 1, 1) := by decide +kernel
theorem dX10_pasture_2 : decode cX10_pasture 2 = .ok (.invokevirtual 42, 3) := by decide +kernel
theorem dX10_pasture_5 : decode cX10_pasture 5 = .ok (.ifCond .ne 5, 3) := by decide +kernel
theorem dX10_pasture_8 : decode cX10_pasture 8 = .ok (.iconst (-1), 1) := by decide +kernel
theorem dX10_pasture_9 : decode cX10_pasture 9 = .ok (.ireturn, 1) := by decide +kernel
theorem dX10_pasture_10 : decode cX10_pasture 10 = .ok (.iload_n 2, 1) := by decide +kernel
theorem dX10_pasture_11 : decode cX10_pasture 11 = .ok (.tableswitch 105 0 8 #[49, 49, 49, 62, 68, 74, 80, 86, 92], 49) := by decide +kernel
theorem dX10_pasture_60 : decode cX10_pasture 60 = .ok (.aload_n 0, 1) := by decide +kernel
theorem dX10_pasture_61 : decode cX10_pasture 61 = .ok (.getfield 7, 3) := by decide +kernel
theorem dX10_pasture_64 : decode cX10_pasture 64 = .ok (.iconst 0, 1) := by decide +kernel
theorem dX10_pasture_65 : decode cX10_pasture 65 = .ok (.iconst 4, 1) := by decide +kernel
theorem dX10_pasture_66 : decode cX10_pasture 66 = .ok (.iload_n 1, 1) := by decide +kernel
theorem dX10_pasture_67 : decode cX10_pasture 67 = .ok (.imul, 1) := by decide +kernel
theorem dX10_pasture_68 : decode cX10_pasture 68 = .ok (.iadd, 1) := by decide +kernel
theorem dX10_pasture_69 : decode cX10_pasture 69 = .ok (.iload_n 2, 1) := by decide +kernel
theorem dX10_pasture_70 : decode cX10_pasture 70 = .ok (.iadd, 1) := by decide +kernel
theorem dX10_pasture_71 : decode cX10_pasture 71 = .ok (.iaload, 1) := by decide +kernel
theorem dX10_pasture_72 : decode cX10_pasture 72 = .ok (.ireturn, 1) := by decide +kernel
theorem dX10_pasture_73 : decode cX10_pasture 73 = .ok (.aload_n 0, 1) := by decide +kernel
theorem dX10_pasture_74 : decode cX10_pasture 74 = .ok (.iload_n 1, 1) := by decide +kernel
theorem dX10_pasture_75 : decode cX10_pasture 75 = .ok (.invokevirtual 45, 3) := by decide +kernel
theorem dX10_pasture_78 : decode cX10_pasture 78 = .ok (.ireturn, 1) := by decide +kernel
theorem dX10_pasture_79 : decode cX10_pasture 79 = .ok (.aload_n 0, 1) := by decide +kernel
theorem dX10_pasture_80 : decode cX10_pasture 80 = .ok (.iload_n 1, 1) := by decide +kernel
theorem dX10_pasture_81 : decode cX10_pasture 81 = .ok (.invokevirtual 83, 3) := by decide +kernel
theorem dX10_pasture_84 : decode cX10_pasture 84 = .ok (.ireturn, 1) := by decide +kernel
theorem dX10_pasture_85 : decode cX10_pasture 85 = .ok (.aload_n 0, 1) := by decide +kernel
theorem dX10_pasture_86 : decode cX10_pasture 86 = .ok (.iload_n 1, 1) := by decide +kernel
theorem dX10_pasture_87 : decode cX10_pasture 87 = .ok (.invokevirtual 92, 3) := by decide +kernel
theorem dX10_pasture_90 : decode cX10_pasture 90 = .ok (.ireturn, 1) := by decide +kernel
theorem dX10_pasture_91 : decode cX10_pasture 91 = .ok (.aload_n 0, 1) := by decide +kernel
theorem dX10_pasture_92 : decode cX10_pasture 92 = .ok (.iload_n 1, 1) := by decide +kernel
theorem dX10_pasture_93 : decode cX10_pasture 93 = .ok (.invokevirtual 187, 3) := by decide +kernel
theorem dX10_pasture_96 : decode cX10_pasture 96 = .ok (.ireturn, 1) := by decide +kernel
theorem dX10_pasture_97 : decode cX10_pasture 97 = .ok (.aload_n 0, 1) := by decide +kernel
theorem dX10_pasture_98 : decode cX10_pasture 98 = .ok (.iload_n 1, 1) := by decide +kernel
theorem dX10_pasture_99 : decode cX10_pasture 99 = .ok (.invokevirtual 190, 3) := by decide +kernel
theorem dX10_pasture_102 : decode cX10_pasture 102 = .ok (.ireturn, 1) := by decide +kernel
theorem dX10_pasture_103 : decode cX10_pasture 103 = .ok (.aload_n 0, 1) := by decide +kernel
theorem dX10_pasture_104 : decode cX10_pasture 104 = .ok (.getfield 7, 3) := by decide +kernel
theorem dX10_pasture_107 : decode cX10_pasture 107 = .ok (.iconst 0, 1) := by decide +kernel
theorem dX10_pasture_108 : decode cX10_pasture 108 = .ok (.iconst 4, 1) := by decide +kernel
theorem dX10_pasture_109 : decode cX10_pasture 109 = .ok (.iload_n 1, 1) := by decide +kernel
theorem dX10_pasture_110 : decode cX10_pasture 110 = .ok (.imul, 1) := by decide +kernel
theorem dX10_pasture_111 : decode cX10_pasture 111 = .ok (.iadd, 1) := by decide +kernel
theorem dX10_pasture_112 : decode cX10_pasture 112 = .ok (.iconst 3, 1) := by decide +kernel
theorem dX10_pasture_113 : decode cX10_pasture 113 = .ok (.iadd, 1) := by decide +kernel
theorem dX10_pasture_114 : decode cX10_pasture 114 = .ok (.iaload, 1) := by decide +kernel
theorem dX10_pasture_115 : decode cX10_pasture 115 = .ok (.ireturn, 1) := by decide +kernel
theorem dX10_pasture_116 : decode cX10_pasture 116 = .ok (.bipush (-2), 2) := by decide +kernel
theorem dX10_pasture_118 : decode cX10_pasture 118 = .ok (.ireturn, 1) := by decide +kernel
set_option maxRecDepth 100000 in
set_option maxHeartbeats 4000000 in
theorem c_X10_pasture (l : Launch) (D : va_G) (cas : Nat → ClassId) (ad : Nat → Nat) (hi : zInj ad) {v1 : Int} {v2 : Int}  {r : Int} {M M' : Mem} (hf : f_X10_pasture v1 v2 M = some (r, M')) : zMi l D cas ad yX10_pasture cX10_pasture 3 (some .int) 3 67 [.ref (ad 215), .int (zI v1), .int (zI v2)] M r M' := by
  refine zbody (by decide) (Nat.le_of_ble_eq_true rfl) hi ?_
  intro p e s m args below meth c X hr hk0
  have X : zX p s m args c cX10_pasture "ShardTrailsModel" 3 D cas ad (zA ad) := X
  have hB60 : ∀ (v1 v2 : Int) (M : Mem), f_X10_pasture_b60 v1 v2 M = some (r, M') → WW p l e (zrm 3 67) s m args below meth c D cas ad (zA ad) 3 0 0 (MQ below (zQi D cas ad r M') args s 0 0 (zA ad)) 60 [(0, .ref (ad 215)), (1, .int (zI v1)), (2, .int (zI v2))] [] M := by
    intro v1 v2 M hf
    unfold f_X10_pasture_b60 at hf
    refine R_aload_n X 0 dX10_pasture_60 rfl rfl ?_
    refine R_getR X (j := 0) 1 216 lc_215 rfl inX10 (by decide) rfl rfl (by decide) rfl rfl wf_X10_7 dX10_pasture_61 ?_
    refine R_iconst X dX10_pasture_64 ?_
    refine R_iconst X dX10_pasture_65 ?_
    refine R_iload_n X 1 dX10_pasture_66 rfl rfl ?_
    refine R_imul X dX10_pasture_67 ?_
    refine R_iadd X dX10_pasture_68 ?_
    refine R_iload_n X 2 dX10_pasture_69 rfl rfl ?_
    refine R_iadd X dX10_pasture_70 ?_
    obtain ⟨hq32, hf⟩ := zgrd hf
    refine R_iald X lc_216 hq32 dX10_pasture_71 ?_
    exact R_iret X hr hk0 dX10_pasture_72 hf
  unfold f_X10_pasture at hf
  refine (?_ : WW p l e (zrm 3 67) s m args below meth c D cas ad (zA ad) 3 0 0 (MQ below (zQi D cas ad r M') args s 0 0 (zA ad)) 0 [(0, .ref (ad 215)), (1, .int (zI v1)), (2, .int (zI v2))] [] M)
  refine R_aload_n X 0 dX10_pasture_0 rfl rfl ?_
  refine R_iload_n X 1 dX10_pasture_1 rfl rfl ?_
  obtain ⟨r1, M2, hc3, hf⟩ := zbnd_some hf
  refine R_callVi X (av := [.int (zI v1)]) (rest := []) (c_X10_isPasture l D cas ad hi hc3) zy_X10_isPasture lc_215 rfl rfl wm_X10_42 rfl rfl ⟨Nat.le_of_ble_eq_true rfl, Nat.le_of_ble_eq_true rfl⟩ ⟨Nat.le_refl _, Nat.le_refl _⟩ (Nat.le_of_ble_eq_true rfl) dX10_pasture_2 ?_
  obtain ⟨hq4, hf⟩ := zgrd hf
  refine R_if_ne X 10 hq4 dX10_pasture_5 (by decide) (fun c31 => ?_) (fun c31 => ?_)
  · have hf := zelse hf c31
    refine R_iload_n X 2 dX10_pasture_10 rfl rfl ?_
    obtain ⟨hq5, hf⟩ := zgrd hf
    by_cases c6 : v2 = 0
    · have hf := zthen hf c6
      refine R_tableIn X (o := 49) 60 c6 dX10_pasture_11 (by decide) (by decide) (by decide) (by decide +kernel) (by decide) ?_
      exact R_sub [0, 1, 2] rfl (hB60 v1 v2 M2 hf)
    have hf := zelse hf c6
    by_cases c7 : v2 = 1
    · have hf := zthen hf c7
      refine R_tableIn X (o := 49) 60 c7 dX10_pasture_11 (by decide) (by decide) (by decide) (by decide +kernel) (by decide) ?_
      exact R_sub [0, 1, 2] rfl (hB60 v1 v2 M2 hf)
    have hf := zelse hf c7
    by_cases c8 : v2 = 2
    · have hf := zthen hf c8
      refine R_tableIn X (o := 49) 60 c8 dX10_pasture_11 (by decide) (by decide) (by decide) (by decide +kernel) (by decide) ?_
      exact R_sub [0, 1, 2] rfl (hB60 v1 v2 M2 hf)
    have hf := zelse hf c8
    by_cases c12 : v2 = 3
    · have hf := zthen hf c12
      refine R_tableIn X (o := 62) 73 c12 dX10_pasture_11 (by decide) (by decide) (by decide) (by decide +kernel) (by decide) ?_
      refine R_aload_n X 0 dX10_pasture_73 rfl rfl ?_
      refine R_iload_n X 1 dX10_pasture_74 rfl rfl ?_
      obtain ⟨r9, M10, hc11, hf⟩ := zbnd_some hf
      refine R_callVi X (av := [.int (zI v1)]) (rest := []) (c_X10_shardsIn l D cas ad hi hc11) zy_X10_shardsIn lc_215 rfl rfl wm_X10_45 rfl rfl ⟨Nat.le_of_ble_eq_true rfl, Nat.le_of_ble_eq_true rfl⟩ ⟨Nat.le_refl _, Nat.le_refl _⟩ (Nat.le_of_ble_eq_true rfl) dX10_pasture_75 ?_
      exact R_iret X hr hk0 dX10_pasture_78 hf
    have hf := zelse hf c12
    by_cases c16 : v2 = 4
    · have hf := zthen hf c16
      refine R_tableIn X (o := 68) 79 c16 dX10_pasture_11 (by decide) (by decide) (by decide) (by decide +kernel) (by decide) ?_
      refine R_aload_n X 0 dX10_pasture_79 rfl rfl ?_
      refine R_iload_n X 1 dX10_pasture_80 rfl rfl ?_
      obtain ⟨r13, M14, hc15, hf⟩ := zbnd_some hf
      refine R_callVi X (av := [.int (zI v1)]) (rest := []) (c_X10_tracksIn l D cas ad hi hc15) zy_X10_tracksIn lc_215 rfl rfl wm_X10_83 rfl rfl ⟨Nat.le_of_ble_eq_true rfl, Nat.le_of_ble_eq_true rfl⟩ ⟨Nat.le_refl _, Nat.le_refl _⟩ (Nat.le_of_ble_eq_true rfl) dX10_pasture_81 ?_
      exact R_iret X hr hk0 dX10_pasture_84 hf
    have hf := zelse hf c16
    by_cases c20 : v2 = 5
    · have hf := zthen hf c20
      refine R_tableIn X (o := 74) 85 c20 dX10_pasture_11 (by decide) (by decide) (by decide) (by decide +kernel) (by decide) ?_
      refine R_aload_n X 0 dX10_pasture_85 rfl rfl ?_
      refine R_iload_n X 1 dX10_pasture_86 rfl rfl ?_
      obtain ⟨r17, M18, hc19, hf⟩ := zbnd_some hf
      refine R_callVi X (av := [.int (zI v1)]) (rest := []) (c_X10_distanceOf l D cas ad hi hc19) zy_X10_distanceOf lc_215 rfl rfl wm_X10_92 rfl rfl ⟨Nat.le_of_ble_eq_true rfl, Nat.le_of_ble_eq_true rfl⟩ ⟨Nat.le_refl _, Nat.le_refl _⟩ (Nat.le_of_ble_eq_true rfl) dX10_pasture_87 ?_
      exact R_iret X hr hk0 dX10_pasture_90 hf
    have hf := zelse hf c20
    by_cases c24 : v2 = 6
    · have hf := zthen hf c24
      refine R_tableIn X (o := 80) 91 c24 dX10_pasture_11 (by decide) (by decide) (by decide) (by decide +kernel) (by decide) ?_
      refine R_aload_n X 0 dX10_pasture_91 rfl rfl ?_
      refine R_iload_n X 1 dX10_pasture_92 rfl rfl ?_
      obtain ⟨r21, M22, hc23, hf⟩ := zbnd_some hf
      refine R_callVi X (av := [.int (zI v1)]) (rest := []) (c_X10_heatIn l D cas ad hi hc23) zy_X10_heatIn lc_215 rfl rfl wm_X10_187 rfl rfl ⟨Nat.le_of_ble_eq_true rfl, Nat.le_of_ble_eq_true rfl⟩ ⟨Nat.le_refl _, Nat.le_refl _⟩ (Nat.le_of_ble_eq_true rfl) dX10_pasture_93 ?_
      exact R_iret X hr hk0 dX10_pasture_96 hf
    have hf := zelse hf c24
    by_cases c28 : v2 = 7
    · have hf := zthen hf c28
      refine R_tableIn X (o := 86) 97 c28 dX10_pasture_11 (by decide) (by decide) (by decide) (by decide +kernel) (by decide) ?_
      refine R_aload_n X 0 dX10_pasture_97 rfl rfl ?_
      refine R_iload_n X 1 dX10_pasture_98 rfl rfl ?_
      obtain ⟨r25, M26, hc27, hf⟩ := zbnd_some hf
      refine R_callVi X (av := [.int (zI v1)]) (rest := []) (c_X10_wolvesIn l D cas ad hi hc27) zy_X10_wolvesIn lc_215 rfl rfl wm_X10_190 rfl rfl ⟨Nat.le_of_ble_eq_true rfl, Nat.le_of_ble_eq_true rfl⟩ ⟨Nat.le_refl _, Nat.le_refl _⟩ (Nat.le_of_ble_eq_true rfl) dX10_pasture_99 ?_
      exact R_iret X hr hk0 dX10_pasture_102 hf
    have hf := zelse hf c28
    by_cases c30 : v2 = 8
    · have hf := zthen hf c30
      refine R_tableIn X (o := 92) 103 c30 dX10_pasture_11 (by decide) (by decide) (by decide) (by decide +kernel) (by decide) ?_
      refine R_aload_n X 0 dX10_pasture_103 rfl rfl ?_
      refine R_getR X (j := 0) 1 216 lc_215 rfl inX10 (by decide) rfl rfl (by decide) rfl rfl wf_X10_7 dX10_pasture_104 ?_
      refine R_iconst X dX10_pasture_107 ?_
      refine R_iconst X dX10_pasture_108 ?_
      refine R_iload_n X 1 dX10_pasture_109 rfl rfl ?_
      refine R_imul X dX10_pasture_110 ?_
      refine R_iadd X dX10_pasture_111 ?_
      refine R_iconst X dX10_pasture_112 ?_
      refine R_iadd X dX10_pasture_113 ?_
      obtain ⟨hq29, hf⟩ := zgrd hf
      refine R_iald X lc_216 hq29 dX10_pasture_114 ?_
      exact R_iret X hr hk0 dX10_pasture_115 hf
    have hf := zelse hf c30
    refine R_tableOut X 116 hq5 dX10_pasture_11 (by omega) (by decide) ?_
    refine R_bipush X dX10_pasture_116 (by decide +kernel) ?_
    exact R_iret X hr hk0 dX10_pasture_118 hf
  · have hf := zthen hf c31
    refine R_iconst X dX10_pasture_8 ?_
    exact R_iret X hr hk0 dX10_pasture_9 hf
theorem dX10_post_0 : decode cX10_post 0 = .ok (.aload_n 0, 1) := by decide +kernel
theorem dX10_post_1 : decode cX10_post 1 = .ok (.invokevirtual 52, 3) := by decide +kernel
theorem dX10_post_4 : decode cX10_post 4 = .ok (.istore_n 1, 1) := by decide +kernel
theorem dX10_post_5 : decode cX10_post 5 = .ok (.iload_n 1, 1) := by decide +kernel
theorem dX10_post_6 : decode cX10_post 6 = .ok (.ifCond .ne 6, 3) := by decide +kernel
theorem dX10_post_9 : decode cX10_post 9 = .ok (.bipush (-5), 2) := by decide +kernel
theorem dX10_post_11 : decode cX10_post 11 = .ok (.ireturn, 1) := by decide +kernel
theorem dX10_post_12 : decode cX10_post 12 = .ok (.aload_n 0, 1) := by decide +kernel
theorem dX10_post_13 : decode cX10_post 13 = .ok (.invokevirtual 31, 3) := by decide +kernel
theorem dX10_post_16 : decode cX10_post 16 = .ok (.aload_n 0, 1) := by decide +kernel
theorem dX10_post_17 : decode cX10_post 17 = .ok (.invokevirtual 89, 3) := by decide +kernel
theorem dX10_post_20 : decode cX10_post 20 = .ok (.iload_n 1, 1) := by decide +kernel
theorem dX10_post_21 : decode cX10_post 21 = .ok (.ireturn, 1) := by decide +kernel
set_option maxRecDepth 100000 in
set_option maxHeartbeats 4000000 in
theorem c_X10_post (l : Launch) (D : va_G) (cas : Nat → ClassId) (ad : Nat → Nat) (hi : zInj ad)   {r : Int} {M M' : Mem} (hf : f_X10_post M = some (r, M')) : zMi l D cas ad yX10_post cX10_post 2 (some .int) 2 44 [.ref (ad 215)] M r M' := by
  refine zbody (by decide) (Nat.le_of_ble_eq_true rfl) hi ?_
  intro p e s m args below meth c X hr hk0
  have X : zX p s m args c cX10_post "ShardTrailsModel" 2 D cas ad (zA ad) := X
  unfold f_X10_post at hf
  refine (?_ : WW p l e (zrm 2 44) s m args below meth c D cas ad (zA ad) 2 0 0 (MQ below (zQi D cas ad r M') args s 0 0 (zA ad)) 0 [(0, .ref (ad 215))] [] M)
  refine R_aload_n X 0 dX10_post_0 rfl rfl ?_
  obtain ⟨r1, M2, hc3, hf⟩ := zbnd_some hf
  refine R_callVi X (av := []) (rest := []) (c_X10_inns l D cas ad hi hc3) zy_X10_inns lc_215 rfl rfl wm_X10_52 rfl rfl ⟨Nat.le_of_ble_eq_true rfl, Nat.le_of_ble_eq_true rfl⟩ ⟨Nat.le_refl _, Nat.le_refl _⟩ (Nat.le_of_ble_eq_true rfl) dX10_post_1 ?_
  refine R_istore_n X (lv' := [(1, .int (zI r1)), (0, .ref (ad 215))]) dX10_post_4 rfl (by decide) rfl ?_
  refine R_iload_n X 0 dX10_post_5 rfl rfl ?_
  obtain ⟨hq4, hf⟩ := zgrd hf
  refine R_if_ne X 12 hq4 dX10_post_6 (by decide) (fun c11 => ?_) (fun c11 => ?_)
  · have hf := zelse hf c11
    refine R_aload_n X 1 dX10_post_12 rfl rfl ?_
    obtain ⟨r5, M6, hc7, hf⟩ := zbnd_some hf
    refine R_callVv X (av := []) (rest := []) (c_X10_record l D cas ad hi hc7) zy_X10_record lc_215 rfl rfl wm_X10_31 rfl rfl ⟨Nat.le_of_ble_eq_true rfl, Nat.le_of_ble_eq_true rfl⟩ ⟨Nat.le_refl _, Nat.le_refl _⟩ (Nat.le_of_ble_eq_true rfl) dX10_post_13 ?_
    refine R_aload_n X 1 dX10_post_16 rfl rfl ?_
    obtain ⟨r8, M9, hc10, hf⟩ := zbnd_some hf
    refine R_callVv X (av := []) (rest := []) (c_X10_postAll l D cas ad hi hc10) zy_X10_postAll lc_215 rfl rfl wm_X10_89 rfl rfl ⟨Nat.le_of_ble_eq_true rfl, Nat.le_of_ble_eq_true rfl⟩ ⟨Nat.le_refl _, Nat.le_refl _⟩ (Nat.le_of_ble_eq_true rfl) dX10_post_17 ?_
    refine R_iload_n X 0 dX10_post_20 rfl rfl ?_
    exact R_iret X hr hk0 dX10_post_21 hf
  · have hf := zthen hf c11
    refine R_bipush X dX10_post_9 (by decide +kernel) ?_
    exact R_iret X hr hk0 dX10_post_11 hf
theorem dX10_put_0 : decode cX10_put 0 = .ok (.aload_n 0, 1) := by decide +kernel
theorem dX10_put_1 : decode cX10_put 1 = .ok (.getfield 7, 3) := by decide +kernel
theorem dX10_put_4 : decode cX10_put 4 = .ok (.iload_n 1, 1) := by decide +kernel
theorem dX10_put_5 : decode cX10_put 5 = .ok (.iaload, 1) := by decide +kernel
theorem dX10_put_6 : decode cX10_put 6 = .ok (.istore_n 3, 1) := by decide +kernel
theorem dX10_put_7 : decode cX10_put 7 = .ok (.iload_n 3, 1) := by decide +kernel
theorem dX10_put_8 : decode cX10_put 8 = .ok (.iload_n 2, 1) := by decide +kernel
theorem dX10_put_9 : decode cX10_put 9 = .ok (.if_icmp .ne 6, 3) := by decide +kernel
theorem dX10_put_12 : decode cX10_put 12 = .ok (.bipush (-5), 2) := by decide +kernel
theorem dX10_put_14 : decode cX10_put 14 = .ok (.ireturn, 1) := by decide +kernel
theorem dX10_put_15 : decode cX10_put 15 = .ok (.aload_n 0, 1) := by decide +kernel
theorem dX10_put_16 : decode cX10_put 16 = .ok (.invokevirtual 31, 3) := by decide +kernel
theorem dX10_put_19 : decode cX10_put 19 = .ok (.aload_n 0, 1) := by decide +kernel
theorem dX10_put_20 : decode cX10_put 20 = .ok (.getfield 7, 3) := by decide +kernel
theorem dX10_put_23 : decode cX10_put 23 = .ok (.iload_n 1, 1) := by decide +kernel
theorem dX10_put_24 : decode cX10_put 24 = .ok (.iload_n 2, 1) := by decide +kernel
theorem dX10_put_25 : decode cX10_put 25 = .ok (.iastore, 1) := by decide +kernel
theorem dX10_put_26 : decode cX10_put 26 = .ok (.iload_n 3, 1) := by decide +kernel
theorem dX10_put_27 : decode cX10_put 27 = .ok (.ireturn, 1) := by decide +kernel
set_option maxRecDepth 100000 in
set_option maxHeartbeats 4000000 in
theorem c_X10_put (l : Launch) (D : va_G) (cas : Nat → ClassId) (ad : Nat → Nat) (hi : zInj ad) {v1 : Int} {v2 : Int}  {r : Int} {M M' : Mem} (hf : f_X10_put v1 v2 M = some (r, M')) : zMi l D cas ad yX10_put cX10_put 4 (some .int) 2 44 [.ref (ad 215), .int (zI v1), .int (zI v2)] M r M' := by
  refine zbody (by decide) (Nat.le_of_ble_eq_true rfl) hi ?_
  intro p e s m args below meth c X hr hk0
  have X : zX p s m args c cX10_put "ShardTrailsModel" 4 D cas ad (zA ad) := X
  unfold f_X10_put at hf
  refine (?_ : WW p l e (zrm 2 44) s m args below meth c D cas ad (zA ad) 4 0 0 (MQ below (zQi D cas ad r M') args s 0 0 (zA ad)) 0 [(0, .ref (ad 215)), (1, .int (zI v1)), (2, .int (zI v2))] [] M)
  refine R_aload_n X 0 dX10_put_0 rfl rfl ?_
  refine R_getR X (j := 0) 1 216 lc_215 rfl inX10 (by decide) rfl rfl (by decide) rfl rfl wf_X10_7 dX10_put_1 ?_
  refine R_iload_n X 1 dX10_put_4 rfl rfl ?_
  obtain ⟨hq1, hf⟩ := zgrd hf
  refine R_iald X lc_216 hq1 dX10_put_5 ?_
  obtain ⟨x2, ex2, hf⟩ := zlt_some hf
  refine R_istore_nX X (lv' := [(3, .int (zI x2)), (0, .ref (ad 215)), (1, .int (zI v1)), (2, .int (zI v2))]) ex2 dX10_put_6 rfl (by decide) rfl ?_
  refine R_iload_n X 0 dX10_put_7 rfl rfl ?_
  refine R_iload_n X 3 dX10_put_8 rfl rfl ?_
  obtain ⟨hq3, hf⟩ := zgrd hf
  obtain ⟨hq4, hf⟩ := zgrd hf
  refine R_icmp_ne X 15 ⟨hq3, hq4⟩ dX10_put_9 (by decide) (fun c9 => ?_) (fun c9 => ?_)
  · have hf := zelse hf c9
    refine R_aload_n X 1 dX10_put_15 rfl rfl ?_
    obtain ⟨r5, M6, hc7, hf⟩ := zbnd_some hf
    refine R_callVv X (av := []) (rest := []) (c_X10_record l D cas ad hi hc7) zy_X10_record lc_215 rfl rfl wm_X10_31 rfl rfl ⟨Nat.le_of_ble_eq_true rfl, Nat.le_of_ble_eq_true rfl⟩ ⟨Nat.le_refl _, Nat.le_refl _⟩ (Nat.le_of_ble_eq_true rfl) dX10_put_16 ?_
    refine R_aload_n X 1 dX10_put_19 rfl rfl ?_
    refine R_getR X (j := 0) 1 216 lc_215 rfl inX10 (by decide) rfl rfl (by decide) rfl rfl wf_X10_7 dX10_put_20 ?_
    refine R_iload_n X 2 dX10_put_23 rfl rfl ?_
    refine R_iload_n X 3 dX10_put_24 rfl rfl ?_
    obtain ⟨M8, eM8, hf⟩ := zlt_some hf
    refine R_iast X lc_216 hq1 dX10_put_25 ?_
    refine R_mem eM8 ?_
    refine R_iload_n X 0 dX10_put_26 rfl rfl ?_
    exact R_iret X hr hk0 dX10_put_27 hf
  · have hf := zthen hf c9
    refine R_bipush X dX10_put_12 (by decide +kernel) ?_
    exact R_iret X hr hk0 dX10_put_14 hf
theorem dX10_reach_0 : decode cX10_reach 0 = .ok (.aload_n 0, 1) := by decide +kernel
theorem dX10_reach_1 : decode cX10_reach 1 = .ok (.iload_n 1, 1) := by decide +kernel
theorem dX10_reach_2 : decode cX10_reach 2 = .ok (.invokevirtual 147, 3) := by decide +kernel
theorem dX10_reach_5 : decode cX10_reach 5 = .ok (.ifCond .eq 10, 3) := by decide +kernel
theorem dX10_reach_8 : decode cX10_reach 8 = .ok (.iload_n 2, 1) := by decide +kernel
theorem dX10_reach_9 : decode cX10_reach 9 = .ok (.invokestatic 150, 3) := by decide +kernel
theorem dX10_reach_12 : decode cX10_reach 12 = .ok (.ifCond .ne 5, 3) := by decide +kernel
theorem dX10_reach_15 : decode cX10_reach 15 = .ok (.iconst (-1), 1) := by decide +kernel
theorem dX10_reach_16 : decode cX10_reach 16 = .ok (.ireturn, 1) := by decide +kernel
theorem dX10_reach_17 : decode cX10_reach 17 = .ok (.iload_n 3, 1) := by decide +kernel
theorem dX10_reach_18 : decode cX10_reach 18 = .ok (.iconst 0, 1) := by decide +kernel
theorem dX10_reach_19 : decode cX10_reach 19 = .ok (.iconst 4, 1) := by decide +kernel
theorem dX10_reach_20 : decode cX10_reach 20 = .ok (.invokestatic 34, 3) := by decide +kernel
theorem dX10_reach_23 : decode cX10_reach 23 = .ok (.ifCond .ne 6, 3) := by decide +kernel
theorem dX10_reach_26 : decode cX10_reach 26 = .ok (.bipush (-2), 2) := by decide +kernel
theorem dX10_reach_28 : decode cX10_reach 28 = .ok (.ireturn, 1) := by decide +kernel
theorem dX10_reach_29 : decode cX10_reach 29 = .ok (.aload_n 0, 1) := by decide +kernel
theorem dX10_reach_30 : decode cX10_reach 30 = .ok (.iload_n 1, 1) := by decide +kernel
theorem dX10_reach_31 : decode cX10_reach 31 = .ok (.iload_n 2, 1) := by decide +kernel
theorem dX10_reach_32 : decode cX10_reach 32 = .ok (.bipush 16, 2) := by decide +kernel
theorem dX10_reach_34 : decode cX10_reach 34 = .ok (.idiv, 1) := by decide +kernel
theorem dX10_reach_35 : decode cX10_reach 35 = .ok (.invokevirtual 144, 3) := by decide +kernel
theorem dX10_reach_38 : decode cX10_reach 38 = .ok (.iload_n 3, 1) := by decide +kernel
theorem dX10_reach_39 : decode cX10_reach 39 = .ok (.ifCond .ne 10, 3) := by decide +kernel
theorem dX10_reach_42 : decode cX10_reach 42 = .ok (.aload_n 0, 1) := by decide +kernel
theorem dX10_reach_43 : decode cX10_reach 43 = .ok (.getfield 131, 3) := by decide +kernel
theorem dX10_reach_46 : decode cX10_reach 46 = .ok (.goto 57, 3) := by decide +kernel
theorem dX10_reach_49 : decode cX10_reach 49 = .ok (.iload_n 3, 1) := by decide +kernel
theorem dX10_reach_50 : decode cX10_reach 50 = .ok (.iconst 1, 1) := by decide +kernel
theorem dX10_reach_51 : decode cX10_reach 51 = .ok (.if_icmp .ne 10, 3) := by decide +kernel
theorem dX10_reach_54 : decode cX10_reach 54 = .ok (.aload_n 0, 1) := by decide +kernel
theorem dX10_reach_55 : decode cX10_reach 55 = .ok (.getfield 125, 3) := by decide +kernel
theorem dX10_reach_58 : decode cX10_reach 58 = .ok (.goto 45, 3) := by decide +kernel
theorem dX10_reach_61 : decode cX10_reach 61 = .ok (.iload_n 3, 1) := by decide +kernel
theorem dX10_reach_62 : decode cX10_reach 62 = .ok (.iconst 2, 1) := by decide +kernel
theorem dX10_reach_63 : decode cX10_reach 63 = .ok (.if_icmp .ne 13, 3) := by decide +kernel
theorem dX10_reach_66 : decode cX10_reach 66 = .ok (.aload_n 0, 1) := by decide +kernel
theorem dX10_reach_67 : decode cX10_reach 67 = .ok (.getfield 116, 3) := by decide +kernel
theorem dX10_reach_70 : decode cX10_reach 70 = .ok (.invokestatic 199, 3) := by decide +kernel
theorem dX10_reach_73 : decode cX10_reach 73 = .ok (.goto 30, 3) := by decide +kernel
theorem dX10_reach_76 : decode cX10_reach 76 = .ok (.iload_n 3, 1) := by decide +kernel
theorem dX10_reach_77 : decode cX10_reach 77 = .ok (.iconst 3, 1) := by decide +kernel
theorem dX10_reach_78 : decode cX10_reach 78 = .ok (.if_icmp .ne 13, 3) := by decide +kernel
theorem dX10_reach_81 : decode cX10_reach 81 = .ok (.aload_n 0, 1) := by decide +kernel
theorem dX10_reach_82 : decode cX10_reach 82 = .ok (.getfield 119, 3) := by decide +kernel
theorem dX10_reach_85 : decode cX10_reach 85 = .ok (.invokestatic 199, 3) := by decide +kernel
theorem dX10_reach_88 : decode cX10_reach 88 = .ok (.goto 15, 3) := by decide +kernel
theorem dX10_reach_91 : decode cX10_reach 91 = .ok (.aload_n 0, 1) := by decide +kernel
theorem dX10_reach_92 : decode cX10_reach 92 = .ok (.getfield 134, 3) := by decide +kernel
theorem dX10_reach_95 : decode cX10_reach 95 = .ok (.ifCond .eq 7, 3) := by decide +kernel
theorem dX10_reach_98 : decode cX10_reach 98 = .ok (.iconst 1, 1) := by decide +kernel
theorem dX10_reach_99 : decode cX10_reach 99 = .ok (.goto 4, 3) := by decide +kernel
theorem dX10_reach_102 : decode cX10_reach 102 = .ok (.iconst 0, 1) := by decide +kernel
theorem dX10_reach_103 : decode cX10_reach 103 = .ok (.ireturn, 1) := by decide +kernel
set_option maxRecDepth 100000 in
set_option maxHeartbeats 4000000 in
theorem c_X10_reach (l : Launch) (D : va_G) (cas : Nat → ClassId) (ad : Nat → Nat) (hi : zInj ad) {v1 : Int} {v2 : Int} {v3 : Int}  {r : Int} {M M' : Mem} (hf : f_X10_reach v1 v2 v3 M = some (r, M')) : zMi l D cas ad yX10_reach cX10_reach 4 (some .int) 4 94 [.ref (ad 215), .int (zI v1), .int (zI v2), .int (zI v3)] M r M' := by
  refine zbody (by decide) (Nat.le_of_ble_eq_true rfl) hi ?_
  intro p e s m args below meth c X hr hk0
  have X : zX p s m args c cX10_reach "ShardTrailsModel" 4 D cas ad (zA ad) := X
  have hB15 : ∀ (M : Mem), f_X10_reach_b15 M = some (r, M') → WW p l e (zrm 4 94) s m args below meth c D cas ad (zA ad) 4 0 0 (MQ below (zQi D cas ad r M') args s 0 0 (zA ad)) 15 [] [] M := by
    intro M hf
    unfold f_X10_reach_b15 at hf
    refine R_iconst X dX10_reach_15 ?_
    exact R_iret X hr hk0 dX10_reach_16 hf
  have hB103 : ∀ (t1 : Int) (M : Mem), f_X10_reach_b103 t1 M = some (r, M') → WW p l e (zrm 4 94) s m args below meth c D cas ad (zA ad) 4 0 0 (MQ below (zQi D cas ad r M') args s 0 0 (zA ad)) 103 [] [.int (zI t1)] M := by
    intro t1 M hf
    unfold f_X10_reach_b103 at hf
    exact R_iret X hr hk0 dX10_reach_103 hf
  unfold f_X10_reach at hf
  refine (?_ : WW p l e (zrm 4 94) s m args below meth c D cas ad (zA ad) 4 0 0 (MQ below (zQi D cas ad r M') args s 0 0 (zA ad)) 0 [(0, .ref (ad 215)), (1, .int (zI v1)), (2, .int (zI v2)), (3, .int (zI v3))] [] M)
  refine R_aload_n X 0 dX10_reach_0 rfl rfl ?_
  refine R_iload_n X 1 dX10_reach_1 rfl rfl ?_
  obtain ⟨r1, M2, hc3, hf⟩ := zbnd_some hf
  refine R_callVi X (av := [.int (zI v1)]) (rest := []) (c_X10_isReader l D cas ad hi hc3) zy_X10_isReader lc_215 rfl rfl wm_X10_147 rfl rfl ⟨Nat.le_of_ble_eq_true rfl, Nat.le_of_ble_eq_true rfl⟩ ⟨Nat.le_refl _, Nat.le_refl _⟩ (Nat.le_of_ble_eq_true rfl) dX10_reach_2 ?_
  obtain ⟨hq4, hf⟩ := zgrd hf
  refine R_if_eq X 15 hq4 dX10_reach_5 (by decide) (fun c32 => ?_) (fun c32 => ?_)
  · have hf := zthen hf c32
    exact R_sub [] rfl (hB15 M2 hf)
  · have hf := zelse hf c32
    refine R_iload_n X 2 dX10_reach_8 rfl rfl ?_
    obtain ⟨r5, M6, hc7, hf⟩ := zbnd_some hf
    refine R_callSi X (av := [.int (zI v2)]) (rest := []) (c_X10_isKey l D cas ad hi hc7) zy_X10_isKey wm_X10_150 rfl rfl ⟨Nat.le_of_ble_eq_true rfl, Nat.le_of_ble_eq_true rfl⟩ ⟨Nat.le_refl _, Nat.le_refl _⟩ (Nat.le_of_ble_eq_true rfl) dX10_reach_9 ?_
    obtain ⟨hq8, hf⟩ := zgrd hf
    refine R_if_ne X 17 hq8 dX10_reach_12 (by decide) (fun c31 => ?_) (fun c31 => ?_)
    · have hf := zelse hf c31
      refine R_iload_n X 3 dX10_reach_17 rfl rfl ?_
      refine R_iconst X dX10_reach_18 ?_
      refine R_iconst X dX10_reach_19 ?_
      obtain ⟨r9, M10, hc11, hf⟩ := zbnd_some hf
      refine R_callSi X (av := [.int (zI v3), .int (zI 0), .int (zI 4)]) (rest := []) (c_X10_in l D cas ad hi hc11) zy_X10_in wm_X10_34 rfl rfl ⟨Nat.le_of_ble_eq_true rfl, Nat.le_of_ble_eq_true rfl⟩ ⟨Nat.le_refl _, Nat.le_refl _⟩ (Nat.le_of_ble_eq_true rfl) dX10_reach_20 ?_
      obtain ⟨hq12, hf⟩ := zgrd hf
      refine R_if_ne X 29 hq12 dX10_reach_23 (by decide) (fun c30 => ?_) (fun c30 => ?_)
      · have hf := zelse hf c30
        refine R_aload_n X 0 dX10_reach_29 rfl rfl ?_
        refine R_iload_n X 1 dX10_reach_30 rfl rfl ?_
        refine R_iload_n X 2 dX10_reach_31 rfl rfl ?_
        refine R_bipush X dX10_reach_32 (by decide +kernel) ?_
        obtain ⟨hq13, hf⟩ := zgrd hf
        refine R_idiv X ⟨⟨hq13, (by decide)⟩, (by decide)⟩ dX10_reach_34 ?_
        obtain ⟨r14, M15, hc16, hf⟩ := zbnd_some hf
        refine R_callVv X (av := [.int (zI v1), .int (zI (v2.tdiv 16))]) (rest := []) (c_X10_findWay l D cas ad hi hc16) zy_X10_findWay lc_215 rfl rfl wm_X10_144 rfl rfl ⟨Nat.le_of_ble_eq_true rfl, Nat.le_of_ble_eq_true rfl⟩ ⟨Nat.le_refl _, Nat.le_refl _⟩ (Nat.le_of_ble_eq_true rfl) dX10_reach_35 ?_
        refine R_iload_n X 3 dX10_reach_38 rfl rfl ?_
        obtain ⟨hq17, hf⟩ := zgrd hf
        refine R_if_ne X 49 hq17 dX10_reach_39 (by decide) (fun c29 => ?_) (fun c29 => ?_)
        · have hf := zelse hf c29
          refine R_iload_n X 3 dX10_reach_49 rfl rfl ?_
          refine R_iconst X dX10_reach_50 ?_
          refine R_icmp_ne X 61 ⟨hq17, (by decide)⟩ dX10_reach_51 (by decide) (fun c28 => ?_) (fun c28 => ?_)
          · have hf := zelse hf c28
            refine R_iload_n X 3 dX10_reach_61 rfl rfl ?_
            refine R_iconst X dX10_reach_62 ?_
            refine R_icmp_ne X 76 ⟨hq17, (by decide)⟩ dX10_reach_63 (by decide) (fun c27 => ?_) (fun c27 => ?_)
            · have hf := zelse hf c27
              refine R_iload_n X 3 dX10_reach_76 rfl rfl ?_
              refine R_iconst X dX10_reach_77 ?_
              refine R_icmp_ne X 91 ⟨hq17, (by decide)⟩ dX10_reach_78 (by decide) (fun c23 => ?_) (fun c23 => ?_)
              · have hf := zelse hf c23
                refine R_aload_n X 0 dX10_reach_91 rfl rfl ?_
                refine R_getI X (j := 11) lc_215 rfl inX10 (by decide) rfl rfl rfl wf_X10_134 dX10_reach_92 ?_
                obtain ⟨hq18, hf⟩ := zgrd hf
                refine R_if_eq X 102 hq18 dX10_reach_95 (by decide) (fun c19 => ?_) (fun c19 => ?_)
                · have hf := zthen hf c19
                  refine R_iconst X dX10_reach_102 ?_
                  exact R_sub [] rfl (hB103 0 M15 hf)
                · have hf := zelse hf c19
                  refine R_iconst X dX10_reach_98 ?_
                  refine R_goto X 103 dX10_reach_99 (by decide) ?_
                  exact R_sub [] rfl (hB103 1 M15 hf)
              · have hf := zthen hf c23
                refine R_aload_n X 0 dX10_reach_81 rfl rfl ?_
                refine R_getI X (j := 10) lc_215 rfl inX10 (by decide) rfl rfl rfl wf_X10_119 dX10_reach_82 ?_
                obtain ⟨r20, M21, hc22, hf⟩ := zbnd_some hf
                refine R_callSi X (av := [.int (zI (M15 215 10))]) (rest := []) (c_X10_bits l D cas ad hi hc22) zy_X10_bits wm_X10_199 rfl rfl ⟨Nat.le_of_ble_eq_true rfl, Nat.le_of_ble_eq_true rfl⟩ ⟨Nat.le_refl _, Nat.le_refl _⟩ (Nat.le_of_ble_eq_true rfl) dX10_reach_85 ?_
                refine R_goto X 103 dX10_reach_88 (by decide) ?_
                exact R_sub [] rfl (hB103 r20 M21 hf)
            · have hf := zthen hf c27
              refine R_aload_n X 0 dX10_reach_66 rfl rfl ?_
              refine R_getI X (j := 9) lc_215 rfl inX10 (by decide) rfl rfl rfl wf_X10_116 dX10_reach_67 ?_
              obtain ⟨r24, M25, hc26, hf⟩ := zbnd_some hf
              refine R_callSi X (av := [.int (zI (M15 215 9))]) (rest := []) (c_X10_bits l D cas ad hi hc26) zy_X10_bits wm_X10_199 rfl rfl ⟨Nat.le_of_ble_eq_true rfl, Nat.le_of_ble_eq_true rfl⟩ ⟨Nat.le_refl _, Nat.le_refl _⟩ (Nat.le_of_ble_eq_true rfl) dX10_reach_70 ?_
              refine R_goto X 103 dX10_reach_73 (by decide) ?_
              exact R_sub [] rfl (hB103 r24 M25 hf)
          · have hf := zthen hf c28
            refine R_aload_n X 0 dX10_reach_54 rfl rfl ?_
            refine R_getI X (j := 8) lc_215 rfl inX10 (by decide) rfl rfl rfl wf_X10_125 dX10_reach_55 ?_
            refine R_goto X 103 dX10_reach_58 (by decide) ?_
            exact R_sub [] rfl (hB103 (M15 215 8) M15 hf)
        · have hf := zthen hf c29
          refine R_aload_n X 0 dX10_reach_42 rfl rfl ?_
          refine R_getI X (j := 7) lc_215 rfl inX10 (by decide) rfl rfl rfl wf_X10_131 dX10_reach_43 ?_
          refine R_goto X 103 dX10_reach_46 (by decide) ?_
          exact R_sub [] rfl (hB103 (M15 215 7) M15 hf)
      · have hf := zthen hf c30
        refine R_bipush X dX10_reach_26 (by decide +kernel) ?_
        exact R_iret X hr hk0 dX10_reach_28 hf
    · have hf := zthen hf c31
      exact R_sub [] rfl (hB15 M6 hf)
theorem dX10_reachFor_0 : decode cX10_reachFor 0 = .ok (.iload_n 2, 1) := by decide +kernel
theorem dX10_reachFor_1 : decode cX10_reachFor 1 = .ok (.bipush 16, 2) := by decide +kernel
theorem dX10_reachFor_3 : decode cX10_reachFor 3 = .ok (.idiv, 1) := by decide +kernel
theorem dX10_reachFor_4 : decode cX10_reachFor 4 = .ok (.istore_n 3, 1) := by decide +kernel
theorem dX10_reachFor_5 : decode cX10_reachFor 5 = .ok (.aload_n 0, 1) := by decide +kernel
theorem dX10_reachFor_6 : decode cX10_reachFor 6 = .ok (.iload_n 1, 1) := by decide +kernel
theorem dX10_reachFor_7 : decode cX10_reachFor 7 = .ok (.iload_n 3, 1) := by decide +kernel
theorem dX10_reachFor_8 : decode cX10_reachFor 8 = .ok (.invokevirtual 144, 3) := by decide +kernel
theorem dX10_reachFor_11 : decode cX10_reachFor 11 = .ok (.aload_n 0, 1) := by decide +kernel
theorem dX10_reachFor_12 : decode cX10_reachFor 12 = .ok (.getfield 7, 3) := by decide +kernel
theorem dX10_reachFor_15 : decode cX10_reachFor 15 = .ok (.sipush 432, 3) := by decide +kernel
theorem dX10_reachFor_18 : decode cX10_reachFor 18 = .ok (.iload_n 3, 1) := by decide +kernel
theorem dX10_reachFor_19 : decode cX10_reachFor 19 = .ok (.iadd, 1) := by decide +kernel
theorem dX10_reachFor_20 : decode cX10_reachFor 20 = .ok (.iaload, 1) := by decide +kernel
theorem dX10_reachFor_21 : decode cX10_reachFor 21 = .ok (.aload_n 0, 1) := by decide +kernel
theorem dX10_reachFor_22 : decode cX10_reachFor 22 = .ok (.getfield 7, 3) := by decide +kernel
theorem dX10_reachFor_25 : decode cX10_reachFor 25 = .ok (.sipush 861, 3) := by decide +kernel
theorem dX10_reachFor_28 : decode cX10_reachFor 28 = .ok (.iaload, 1) := by decide +kernel
theorem dX10_reachFor_29 : decode cX10_reachFor 29 = .ok (.iadd, 1) := by decide +kernel
theorem dX10_reachFor_30 : decode cX10_reachFor 30 = .ok (.istore 4, 2) := by decide +kernel
theorem dX10_reachFor_32 : decode cX10_reachFor 32 = .ok (.aload_n 0, 1) := by decide +kernel
theorem dX10_reachFor_33 : decode cX10_reachFor 33 = .ok (.getfield 7, 3) := by decide +kernel
theorem dX10_reachFor_36 : decode cX10_reachFor 36 = .ok (.sipush 432, 3) := by decide +kernel
theorem dX10_reachFor_39 : decode cX10_reachFor 39 = .ok (.iload_n 3, 1) := by decide +kernel
theorem dX10_reachFor_40 : decode cX10_reachFor 40 = .ok (.iadd, 1) := by decide +kernel
theorem dX10_reachFor_41 : decode cX10_reachFor 41 = .ok (.iload 4, 2) := by decide +kernel
theorem dX10_reachFor_43 : decode cX10_reachFor 43 = .ok (.sipush 9999, 3) := by decide +kernel
theorem dX10_reachFor_46 : decode cX10_reachFor 46 = .ok (.if_icmp .le 9, 3) := by decide +kernel
theorem dX10_reachFor_49 : decode cX10_reachFor 49 = .ok (.sipush 9999, 3) := by decide +kernel
theorem dX10_reachFor_52 : decode cX10_reachFor 52 = .ok (.goto 5, 3) := by decide +kernel
theorem dX10_reachFor_55 : decode cX10_reachFor 55 = .ok (.iload 4, 2) := by decide +kernel
theorem dX10_reachFor_57 : decode cX10_reachFor 57 = .ok (.iastore, 1) := by decide +kernel
theorem dX10_reachFor_58 : decode cX10_reachFor 58 = .ok (.aload_n 0, 1) := by decide +kernel
theorem dX10_reachFor_59 : decode cX10_reachFor 59 = .ok (.getfield 7, 3) := by decide +kernel
theorem dX10_reachFor_62 : decode cX10_reachFor 62 = .ok (.sipush 756, 3) := by decide +kernel
theorem dX10_reachFor_65 : decode cX10_reachFor 65 = .ok (.bipush 16, 2) := by decide +kernel
theorem dX10_reachFor_67 : decode cX10_reachFor 67 = .ok (.iload_n 1, 1) := by decide +kernel
theorem dX10_reachFor_68 : decode cX10_reachFor 68 = .ok (.imul, 1) := by decide +kernel
theorem dX10_reachFor_69 : decode cX10_reachFor 69 = .ok (.iadd, 1) := by decide +kernel
theorem dX10_reachFor_70 : decode cX10_reachFor 70 = .ok (.iload_n 3, 1) := by decide +kernel
theorem dX10_reachFor_71 : decode cX10_reachFor 71 = .ok (.iadd, 1) := by decide +kernel
theorem dX10_reachFor_72 : decode cX10_reachFor 72 = .ok (.aload_n 0, 1) := by decide +kernel
theorem dX10_reachFor_73 : decode cX10_reachFor 73 = .ok (.getfield 7, 3) := by decide +kernel
theorem dX10_reachFor_76 : decode cX10_reachFor 76 = .ok (.sipush 416, 3) := by decide +kernel
theorem dX10_reachFor_79 : decode cX10_reachFor 79 = .ok (.iload_n 3, 1) := by decide +kernel
theorem dX10_reachFor_80 : decode cX10_reachFor 80 = .ok (.iadd, 1) := by decide +kernel
theorem dX10_reachFor_81 : decode cX10_reachFor 81 = .ok (.iaload, 1) := by decide +kernel
theorem dX10_reachFor_82 : decode cX10_reachFor 82 = .ok (.iastore, 1) := by decide +kernel
theorem dX10_reachFor_83 : decode cX10_reachFor 83 = .ok (.iconst 0, 1) := by decide +kernel
theorem dX10_reachFor_84 : decode cX10_reachFor 84 = .ok (.istore 5, 2) := by decide +kernel
theorem dX10_reachFor_86 : decode cX10_reachFor 86 = .ok (.iload 5, 2) := by decide +kernel
theorem dX10_reachFor_88 : decode cX10_reachFor 88 = .ok (.aload_n 0, 1) := by decide +kernel
theorem dX10_reachFor_89 : decode cX10_reachFor 89 = .ok (.getfield 7, 3) := by decide +kernel
theorem dX10_reachFor_92 : decode cX10_reachFor 92 = .ok (.sipush 863, 3) := by decide +kernel
theorem dX10_reachFor_95 : decode cX10_reachFor 95 = .ok (.iaload, 1) := by decide +kernel
theorem dX10_reachFor_96 : decode cX10_reachFor 96 = .ok (.if_icmp .ge 42, 3) := by decide +kernel
theorem dX10_reachFor_99 : decode cX10_reachFor 99 = .ok (.aload_n 0, 1) := by decide +kernel
theorem dX10_reachFor_100 : decode cX10_reachFor 100 = .ok (.getfield 7, 3) := by decide +kernel
theorem dX10_reachFor_103 : decode cX10_reachFor 103 = .ok (.iconst 0, 1) := by decide +kernel
theorem dX10_reachFor_104 : decode cX10_reachFor 104 = .ok (.iconst 4, 1) := by decide +kernel
theorem dX10_reachFor_105 : decode cX10_reachFor 105 = .ok (.iload 5, 2) := by decide +kernel
theorem dX10_reachFor_107 : decode cX10_reachFor 107 = .ok (.imul, 1) := by decide +kernel
theorem dX10_reachFor_108 : decode cX10_reachFor 108 = .ok (.iadd, 1) := by decide +kernel
theorem dX10_reachFor_109 : decode cX10_reachFor 109 = .ok (.iconst 3, 1) := by decide +kernel
theorem dX10_reachFor_110 : decode cX10_reachFor 110 = .ok (.iadd, 1) := by decide +kernel
theorem dX10_reachFor_111 : decode cX10_reachFor 111 = .ok (.dup2, 1) := by decide +kernel
theorem dX10_reachFor_112 : decode cX10_reachFor 112 = .ok (.iaload, 1) := by decide +kernel
theorem dX10_reachFor_113 : decode cX10_reachFor 113 = .ok (.aload_n 0, 1) := by decide +kernel
theorem dX10_reachFor_114 : decode cX10_reachFor 114 = .ok (.getfield 119, 3) := by decide +kernel
theorem dX10_reachFor_117 : decode cX10_reachFor 117 = .ok (.iload 5, 2) := by decide +kernel
theorem dX10_reachFor_119 : decode cX10_reachFor 119 = .ok (.invokestatic 122, 3) := by decide +kernel
theorem dX10_reachFor_122 : decode cX10_reachFor 122 = .ok (.ifCond .eq 7, 3) := by decide +kernel
theorem dX10_reachFor_125 : decode cX10_reachFor 125 = .ok (.iconst 1, 1) := by decide +kernel
theorem dX10_reachFor_126 : decode cX10_reachFor 126 = .ok (.goto 4, 3) := by decide +kernel
theorem dX10_reachFor_129 : decode cX10_reachFor 129 = .ok (.iconst 0, 1) := by decide +kernel
theorem dX10_reachFor_130 : decode cX10_reachFor 130 = .ok (.iadd, 1) := by decide +kernel
theorem dX10_reachFor_131 : decode cX10_reachFor 131 = .ok (.iastore, 1) := by decide +kernel
theorem dX10_reachFor_132 : decode cX10_reachFor 132 = .ok (.iinc 5 1, 3) := by decide +kernel
theorem dX10_reachFor_135 : decode cX10_reachFor 135 = .ok (.goto (-49), 3) := by decide +kernel
theorem dX10_reachFor_138 : decode cX10_reachFor 138 = .ok (.sipush 726, 3) := by decide +kernel
theorem dX10_reachFor_141 : decode cX10_reachFor 141 = .ok (.iconst 5, 1) := by decide +kernel
theorem dX10_reachFor_142 : decode cX10_reachFor 142 = .ok (.iload_n 1, 1) := by decide +kernel
theorem dX10_reachFor_143 : decode cX10_reachFor 143 = .ok (.imul, 1) := by decide +kernel
theorem dX10_reachFor_144 : decode cX10_reachFor 144 = .ok (.iadd, 1) := by decide +kernel
theorem dX10_reachFor_145 : decode cX10_reachFor 145 = .ok (.istore 5, 2) := by decide +kernel
theorem dX10_reachFor_147 : decode cX10_reachFor 147 = .ok (.aload_n 0, 1) := by decide +kernel
theorem dX10_reachFor_148 : decode cX10_reachFor 148 = .ok (.getfield 7, 3) := by decide +kernel
theorem dX10_reachFor_151 : decode cX10_reachFor 151 = .ok (.iload 5, 2) := by decide +kernel
theorem dX10_reachFor_153 : decode cX10_reachFor 153 = .ok (.iconst 1, 1) := by decide +kernel
theorem dX10_reachFor_154 : decode cX10_reachFor 154 = .ok (.iadd, 1) := by decide +kernel
theorem dX10_reachFor_155 : decode cX10_reachFor 155 = .ok (.dup2, 1) := by decide +kernel
theorem dX10_reachFor_156 : decode cX10_reachFor 156 = .ok (.iaload, 1) := by decide +kernel
theorem dX10_reachFor_157 : decode cX10_reachFor 157 = .ok (.iconst 1, 1) := by decide +kernel
theorem dX10_reachFor_158 : decode cX10_reachFor 158 = .ok (.iadd, 1) := by decide +kernel
theorem dX10_reachFor_159 : decode cX10_reachFor 159 = .ok (.iastore, 1) := by decide +kernel
theorem dX10_reachFor_160 : decode cX10_reachFor 160 = .ok (.aload_n 0, 1) := by decide +kernel
theorem dX10_reachFor_161 : decode cX10_reachFor 161 = .ok (.getfield 7, 3) := by decide +kernel
theorem dX10_reachFor_164 : decode cX10_reachFor 164 = .ok (.iload 5, 2) := by decide +kernel
theorem dX10_reachFor_166 : decode cX10_reachFor 166 = .ok (.iconst 2, 1) := by decide +kernel
theorem dX10_reachFor_167 : decode cX10_reachFor 167 = .ok (.iadd, 1) := by decide +kernel
theorem dX10_reachFor_168 : decode cX10_reachFor 168 = .ok (.dup2, 1) := by decide +kernel
theorem dX10_reachFor_169 : decode cX10_reachFor 169 = .ok (.iaload, 1) := by decide +kernel
theorem dX10_reachFor_170 : decode cX10_reachFor 170 = .ok (.aload_n 0, 1) := by decide +kernel
theorem dX10_reachFor_171 : decode cX10_reachFor 171 = .ok (.getfield 131, 3) := by decide +kernel
theorem dX10_reachFor_174 : decode cX10_reachFor 174 = .ok (.iadd, 1) := by decide +kernel
theorem dX10_reachFor_175 : decode cX10_reachFor 175 = .ok (.iastore, 1) := by decide +kernel
theorem dX10_reachFor_176 : decode cX10_reachFor 176 = .ok (.aload_n 0, 1) := by decide +kernel
theorem dX10_reachFor_177 : decode cX10_reachFor 177 = .ok (.getfield 7, 3) := by decide +kernel
theorem dX10_reachFor_180 : decode cX10_reachFor 180 = .ok (.iload 5, 2) := by decide +kernel
theorem dX10_reachFor_182 : decode cX10_reachFor 182 = .ok (.iconst 3, 1) := by decide +kernel
theorem dX10_reachFor_183 : decode cX10_reachFor 183 = .ok (.iadd, 1) := by decide +kernel
theorem dX10_reachFor_184 : decode cX10_reachFor 184 = .ok (.dup2, 1) := by decide +kernel
theorem dX10_reachFor_185 : decode cX10_reachFor 185 = .ok (.iaload, 1) := by decide +kernel
theorem dX10_reachFor_186 : decode cX10_reachFor 186 = .ok (.aload_n 0, 1) := by decide +kernel
theorem dX10_reachFor_187 : decode cX10_reachFor 187 = .ok (.getfield 134, 3) := by decide +kernel
theorem dX10_reachFor_190 : decode cX10_reachFor 190 = .ok (.ifCond .eq 7, 3) := by decide +kernel
theorem dX10_reachFor_193 : decode cX10_reachFor 193 = .ok (.iconst 1, 1) := by decide +kernel
theorem dX10_reachFor_194 : decode cX10_reachFor 194 = .ok (.goto 4, 3) := by decide +kernel
theorem dX10_reachFor_197 : decode cX10_reachFor 197 = .ok (.iconst 0, 1) := by decide +kernel
theorem dX10_reachFor_198 : decode cX10_reachFor 198 = .ok (.iadd, 1) := by decide +kernel
theorem dX10_reachFor_199 : decode cX10_reachFor 199 = .ok (.iastore, 1) := by decide +kernel
theorem dX10_reachFor_200 : decode cX10_reachFor 200 = .ok (.aload_n 0, 1) := by decide +kernel
theorem dX10_reachFor_201 : decode cX10_reachFor 201 = .ok (.getfield 7, 3) := by decide +kernel
theorem dX10_reachFor_204 : decode cX10_reachFor 204 = .ok (.iload 5, 2) := by decide +kernel
theorem dX10_reachFor_206 : decode cX10_reachFor 206 = .ok (.iconst 4, 1) := by decide +kernel
theorem dX10_reachFor_207 : decode cX10_reachFor 207 = .ok (.iadd, 1) := by decide +kernel
theorem dX10_reachFor_208 : decode cX10_reachFor 208 = .ok (.aload_n 0, 1) := by decide +kernel
theorem dX10_reachFor_209 : decode cX10_reachFor 209 = .ok (.getfield 131, 3) := by decide +kernel
theorem dX10_reachFor_212 : decode cX10_reachFor 212 = .ok (.aload_n 0, 1) := by decide +kernel
theorem dX10_reachFor_213 : decode cX10_reachFor 213 = .ok (.getfield 7, 3) := by decide +kernel
theorem dX10_reachFor_216 : decode cX10_reachFor 216 = .ok (.iload 5, 2) := by decide +kernel
theorem dX10_reachFor_218 : decode cX10_reachFor 218 = .ok (.iconst 4, 1) := by decide +kernel
theorem dX10_reachFor_219 : decode cX10_reachFor 219 = .ok (.iadd, 1) := by decide +kernel
theorem dX10_reachFor_220 : decode cX10_reachFor 220 = .ok (.iaload, 1) := by decide +kernel
theorem dX10_reachFor_221 : decode cX10_reachFor 221 = .ok (.if_icmp .le 10, 3) := by decide +kernel
theorem dX10_reachFor_224 : decode cX10_reachFor 224 = .ok (.aload_n 0, 1) := by decide +kernel
theorem dX10_reachFor_225 : decode cX10_reachFor 225 = .ok (.getfield 131, 3) := by decide +kernel
theorem dX10_reachFor_228 : decode cX10_reachFor 228 = .ok (.goto 12, 3) := by decide +kernel
theorem dX10_reachFor_231 : decode cX10_reachFor 231 = .ok (.aload_n 0, 1) := by decide +kernel
theorem dX10_reachFor_232 : decode cX10_reachFor 232 = .ok (.getfield 7, 3) := by decide +kernel
theorem dX10_reachFor_235 : decode cX10_reachFor 235 = .ok (.iload 5, 2) := by decide +kernel
theorem dX10_reachFor_237 : decode cX10_reachFor 237 = .ok (.iconst 4, 1) := by decide +kernel
theorem dX10_reachFor_238 : decode cX10_reachFor 238 = .ok (.iadd, 1) := by decide +kernel
theorem dX10_reachFor_239 : decode cX10_reachFor 239 = .ok (.iaload, 1) := by decide +kernel
theorem dX10_reachFor_240 : decode cX10_reachFor 240 = .ok (.iastore, 1) := by decide +kernel
theorem dX10_reachFor_241 : decode cX10_reachFor 241 = .ok (.aload_n 0, 1) := by decide +kernel
theorem dX10_reachFor_242 : decode cX10_reachFor 242 = .ok (.getfield 7, 3) := by decide +kernel
theorem dX10_reachFor_245 : decode cX10_reachFor 245 = .ok (.sipush 869, 3) := by decide +kernel
theorem dX10_reachFor_248 : decode cX10_reachFor 248 = .ok (.dup2, 1) := by decide +kernel
theorem dX10_reachFor_249 : decode cX10_reachFor 249 = .ok (.iaload, 1) := by decide +kernel
theorem dX10_reachFor_250 : decode cX10_reachFor 250 = .ok (.iconst 1, 1) := by decide +kernel
theorem dX10_reachFor_251 : decode cX10_reachFor 251 = .ok (.iadd, 1) := by decide +kernel
theorem dX10_reachFor_252 : decode cX10_reachFor 252 = .ok (.iastore, 1) := by decide +kernel
theorem dX10_reachFor_253 : decode cX10_reachFor 253 = .ok (.aload_n 0, 1) := by decide +kernel
theorem dX10_reachFor_254 : decode cX10_reachFor 254 = .ok (.getfield 7, 3) := by decide +kernel
theorem dX10_reachFor_257 : decode cX10_reachFor 257 = .ok (.sipush 870, 3) := by decide +kernel
theorem dX10_reachFor_260 : decode cX10_reachFor 260 = .ok (.dup2, 1) := by decide +kernel
theorem dX10_reachFor_261 : decode cX10_reachFor 261 = .ok (.iaload, 1) := by decide +kernel
theorem dX10_reachFor_262 : decode cX10_reachFor 262 = .ok (.aload_n 0, 1) := by decide +kernel
theorem dX10_reachFor_263 : decode cX10_reachFor 263 = .ok (.getfield 134, 3) := by decide +kernel
theorem dX10_reachFor_266 : decode cX10_reachFor 266 = .ok (.ifCond .eq 7, 3) := by decide +kernel
theorem dX10_reachFor_269 : decode cX10_reachFor 269 = .ok (.iconst 1, 1) := by decide +kernel
theorem dX10_reachFor_270 : decode cX10_reachFor 270 = .ok (.goto 4, 3) := by decide +kernel
theorem dX10_reachFor_273 : decode cX10_reachFor 273 = .ok (.iconst 0, 1) := by decide +kernel
theorem dX10_reachFor_274 : decode cX10_reachFor 274 = .ok (.iadd, 1) := by decide +kernel
theorem dX10_reachFor_275 : decode cX10_reachFor 275 = .ok (.iastore, 1) := by decide +kernel
theorem dX10_reachFor_276 : decode cX10_reachFor 276 = .ok (.aload_n 0, 1) := by decide +kernel
theorem dX10_reachFor_277 : decode cX10_reachFor 277 = .ok (.getfield 131, 3) := by decide +kernel
theorem dX10_reachFor_280 : decode cX10_reachFor 280 = .ok (.ireturn, 1) := by decide +kernel
set_option maxRecDepth 100000 in
set_option maxHeartbeats 4000000 in
theorem c_X10_reachFor (l : Launch) (D : va_G) (cas : Nat → ClassId) (ad : Nat → Nat) (hi : zInj ad) {v1 : Int} {v2 : Int}  {r : Int} {M M' : Mem} (hf : f_X10_reachFor v1 v2 M = some (r, M')) : zMi l D cas ad yX10_reachFor cX10_reachFor 6 (some .int) 4 94 [.ref (ad 215), .int (zI v1), .int (zI v2)] M r M' := by
  refine zbody (by decide) (Nat.le_of_ble_eq_true rfl) hi ?_
  intro p e s m args below meth c X hr hk0
  have X : zX p s m args c cX10_reachFor "ShardTrailsModel" 6 D cas ad (zA ad) := X
  have hB130 : ∀ (g86 : Int → Int → Mem → Option (Int × Mem)) (hg86 : ∀ (v1 v5 : Int) (M : Mem), g86 v1 v5 M = some (r, M') → WW p l e (zrm 4 94) s m args below meth c D cas ad (zA ad) 6 0 0 (MQ below (zQi D cas ad r M') args s 0 0 (zA ad)) 86 [(0, .ref (ad 215)), (1, .int (zI v1)), (5, .int (zI v5))] [] M) (v1 v5 t4 t3 t2 : Int) (M : Mem), f_X10_reachFor_b130 g86 v1 v5 t4 t3 t2 M = some (r, M') → WW p l e (zrm 4 94) s m args below meth c D cas ad (zA ad) 6 0 0 (MQ below (zQi D cas ad r M') args s 0 0 (zA ad)) 130 [(0, .ref (ad 215)), (1, .int (zI v1)), (5, .int (zI v5))] [.int (zI t4), .int (zI t3), .int (zI t2), .ref (ad 216)] M := by
    intro g86 hg86 v1 v5 t4 t3 t2 M hf
    unfold f_X10_reachFor_b130 at hf
    refine R_iadd X dX10_reachFor_130 ?_
    obtain ⟨hq38, hf⟩ := zgrd hf
    obtain ⟨M39, eM39, hf⟩ := zlt_some hf
    refine R_iast X lc_216 hq38 dX10_reachFor_131 ?_
    refine R_mem eM39 ?_
    refine R_iinc X (lv' := [(5, .int (zI (v5 + 1))), (0, .ref (ad 215)), (1, .int (zI v1))]) 2 dX10_reachFor_132 rfl (by decide) rfl ?_
    refine R_goto X 86 dX10_reachFor_135 (by decide) ?_
    exact R_sub [1, 2, 0] rfl (hg86 v1 (v5 + 1) M39 hf)
  have hB274 : ∀ (t4 t3 t2 : Int) (M : Mem), f_X10_reachFor_b274 t4 t3 t2 M = some (r, M') → WW p l e (zrm 4 94) s m args below meth c D cas ad (zA ad) 6 0 0 (MQ below (zQi D cas ad r M') args s 0 0 (zA ad)) 274 [(0, .ref (ad 215))] [.int (zI t4), .int (zI t3), .int (zI t2), .ref (ad 216)] M := by
    intro t4 t3 t2 M hf
    unfold f_X10_reachFor_b274 at hf
    refine R_iadd X dX10_reachFor_274 ?_
    obtain ⟨hq45, hf⟩ := zgrd hf
    obtain ⟨M46, eM46, hf⟩ := zlt_some hf
    refine R_iast X lc_216 hq45 dX10_reachFor_275 ?_
    refine R_mem eM46 ?_
    refine R_aload_n X 0 dX10_reachFor_276 rfl rfl ?_
    refine R_getI X (j := 7) lc_215 rfl inX10 (by decide) rfl rfl rfl wf_X10_131 dX10_reachFor_277 ?_
    exact R_iret X hr hk0 dX10_reachFor_280 hf
  have hB240 : ∀ (t3 t2 : Int) (M : Mem), f_X10_reachFor_b240 t3 t2 M = some (r, M') → WW p l e (zrm 4 94) s m args below meth c D cas ad (zA ad) 6 0 0 (MQ below (zQi D cas ad r M') args s 0 0 (zA ad)) 240 [(0, .ref (ad 215))] [.int (zI t3), .int (zI t2), .ref (ad 216)] M := by
    intro t3 t2 M hf
    unfold f_X10_reachFor_b240 at hf
    obtain ⟨hq40, hf⟩ := zgrd hf
    obtain ⟨M41, eM41, hf⟩ := zlt_some hf
    refine R_iast X lc_216 hq40 dX10_reachFor_240 ?_
    refine R_mem eM41 ?_
    refine R_aload_n X 0 dX10_reachFor_241 rfl rfl ?_
    refine R_getR X (j := 0) 1 216 lc_215 rfl inX10 (by decide) rfl rfl (by decide) rfl rfl wf_X10_7 dX10_reachFor_242 ?_
    refine R_sipush X dX10_reachFor_245 (by decide +kernel) ?_
    refine R_dup2 X dX10_reachFor_248 rfl rfl ?_
    refine R_iald X lc_216 (by decide) dX10_reachFor_249 ?_
    refine R_iconst X dX10_reachFor_250 ?_
    refine R_iadd X dX10_reachFor_251 ?_
    obtain ⟨M42, eM42, hf⟩ := zlt_some hf
    refine R_iast X lc_216 (by decide) dX10_reachFor_252 ?_
    refine R_mem eM42 ?_
    refine R_aload_n X 0 dX10_reachFor_253 rfl rfl ?_
    refine R_getR X (j := 0) 1 216 lc_215 rfl inX10 (by decide) rfl rfl (by decide) rfl rfl wf_X10_7 dX10_reachFor_254 ?_
    refine R_sipush X dX10_reachFor_257 (by decide +kernel) ?_
    refine R_dup2 X dX10_reachFor_260 rfl rfl ?_
    refine R_iald X lc_216 (by decide) dX10_reachFor_261 ?_
    refine R_aload_n X 0 dX10_reachFor_262 rfl rfl ?_
    refine R_getI X (j := 11) lc_215 rfl inX10 (by decide) rfl rfl rfl wf_X10_134 dX10_reachFor_263 ?_
    obtain ⟨hq43, hf⟩ := zgrd hf
    refine R_if_eq X 273 hq43 dX10_reachFor_266 (by decide) (fun c44 => ?_) (fun c44 => ?_)
    · have hf := zthen hf c44
      refine R_iconst X dX10_reachFor_273 ?_
      exact R_sub [0] rfl (hB274 0 (M42 216 870) 870 M42 hf)
    · have hf := zelse hf c44
      refine R_iconst X dX10_reachFor_269 ?_
      refine R_goto X 274 dX10_reachFor_270 (by decide) ?_
      exact R_sub [0] rfl (hB274 1 (M42 216 870) 870 M42 hf)
  have hB198 : ∀ (v5 t4 t3 t2 : Int) (M : Mem), f_X10_reachFor_b198 v5 t4 t3 t2 M = some (r, M') → WW p l e (zrm 4 94) s m args below meth c D cas ad (zA ad) 6 0 0 (MQ below (zQi D cas ad r M') args s 0 0 (zA ad)) 198 [(0, .ref (ad 215)), (5, .int (zI v5))] [.int (zI t4), .int (zI t3), .int (zI t2), .ref (ad 216)] M := by
    intro v5 t4 t3 t2 M hf
    unfold f_X10_reachFor_b198 at hf
    refine R_iadd X dX10_reachFor_198 ?_
    obtain ⟨hq32, hf⟩ := zgrd hf
    obtain ⟨M33, eM33, hf⟩ := zlt_some hf
    refine R_iast X lc_216 hq32 dX10_reachFor_199 ?_
    refine R_mem eM33 ?_
    refine R_aload_n X 0 dX10_reachFor_200 rfl rfl ?_
    refine R_getR X (j := 0) 1 216 lc_215 rfl inX10 (by decide) rfl rfl (by decide) rfl rfl wf_X10_7 dX10_reachFor_201 ?_
    refine R_iload X 1 dX10_reachFor_204 rfl ?_
    refine R_iconst X dX10_reachFor_206 ?_
    refine R_iadd X dX10_reachFor_207 ?_
    refine R_aload_n X 0 dX10_reachFor_208 rfl rfl ?_
    refine R_getI X (j := 7) lc_215 rfl inX10 (by decide) rfl rfl rfl wf_X10_131 dX10_reachFor_209 ?_
    refine R_aload_n X 0 dX10_reachFor_212 rfl rfl ?_
    refine R_getR X (j := 0) 1 216 lc_215 rfl inX10 (by decide) rfl rfl (by decide) rfl rfl wf_X10_7 dX10_reachFor_213 ?_
    refine R_iload X 1 dX10_reachFor_216 rfl ?_
    refine R_iconst X dX10_reachFor_218 ?_
    refine R_iadd X dX10_reachFor_219 ?_
    obtain ⟨hq34, hf⟩ := zgrd hf
    refine R_iald X lc_216 hq34 dX10_reachFor_220 ?_
    obtain ⟨hq35, hf⟩ := zgrd hf
    obtain ⟨hq36, hf⟩ := zgrd hf
    refine R_icmp_le X 231 ⟨hq35, hq36⟩ dX10_reachFor_221 (by decide) (fun c37 => ?_) (fun c37 => ?_)
    · have hf := zthen hf c37
      refine R_aload_n X 0 dX10_reachFor_231 rfl rfl ?_
      refine R_getR X (j := 0) 1 216 lc_215 rfl inX10 (by decide) rfl rfl (by decide) rfl rfl wf_X10_7 dX10_reachFor_232 ?_
      refine R_iload X 1 dX10_reachFor_235 rfl ?_
      refine R_iconst X dX10_reachFor_237 ?_
      refine R_iadd X dX10_reachFor_238 ?_
      refine R_iald X lc_216 hq34 dX10_reachFor_239 ?_
      exact R_sub [0] rfl (hB240 (M33 216 (v5 + 4).toNat) (v5 + 4) M33 hf)
    · have hf := zelse hf c37
      refine R_aload_n X 0 dX10_reachFor_224 rfl rfl ?_
      refine R_getI X (j := 7) lc_215 rfl inX10 (by decide) rfl rfl rfl wf_X10_131 dX10_reachFor_225 ?_
      refine R_goto X 240 dX10_reachFor_228 (by decide) ?_
      exact R_sub [0] rfl (hB240 (M33 215 7) (v5 + 4) M33 hf)
  have hB86 : ∀ (n : Nat) (v1 v5 : Int) (M : Mem), f_X10_reachFor_b86 n v1 v5 M = some (r, M') → WW p l e (zrm 4 94) s m args below meth c D cas ad (zA ad) 6 0 0 (MQ below (zQi D cas ad r M') args s 0 0 (zA ad)) 86 [(0, .ref (ad 215)), (1, .int (zI v1)), (5, .int (zI v5))] [] M := by
    intro n
    induction n with
    | zero => intro v1 v5 M hf; exact absurd hf (by unfold f_X10_reachFor_b86; simp)
    | succ n ih =>
      intro v1 v5 M hf
      unfold f_X10_reachFor_b86 at hf
      refine R_iload X 2 dX10_reachFor_86 rfl ?_
      refine R_aload_n X 0 dX10_reachFor_88 rfl rfl ?_
      refine R_getR X (j := 0) 1 216 lc_215 rfl inX10 (by decide) rfl rfl (by decide) rfl rfl wf_X10_7 dX10_reachFor_89 ?_
      refine R_sipush X dX10_reachFor_92 (by decide +kernel) ?_
      refine R_iald X lc_216 (by decide) dX10_reachFor_95 ?_
      obtain ⟨hq15, hf⟩ := zgrd hf
      obtain ⟨hq16, hf⟩ := zgrd hf
      refine R_icmp_ge X 138 ⟨hq15, hq16⟩ dX10_reachFor_96 (by decide) (fun c31 => ?_) (fun c31 => ?_)
      · have hf := zthen hf c31
        refine R_sipush X dX10_reachFor_138 (by decide +kernel) ?_
        refine R_iconst X dX10_reachFor_141 ?_
        refine R_iload_n X 1 dX10_reachFor_142 rfl rfl ?_
        refine R_imul X dX10_reachFor_143 ?_
        refine R_iadd X dX10_reachFor_144 ?_
        obtain ⟨x17, ex17, hf⟩ := zlt_some hf
        refine R_istoreX X (lv' := [(5, .int (zI x17)), (0, .ref (ad 215)), (1, .int (zI v1))]) ex17 dX10_reachFor_145 (by decide) rfl ?_
        refine R_aload_n X 1 dX10_reachFor_147 rfl rfl ?_
        refine R_getR X (j := 0) 1 216 lc_215 rfl inX10 (by decide) rfl rfl (by decide) rfl rfl wf_X10_7 dX10_reachFor_148 ?_
        refine R_iload X 0 dX10_reachFor_151 rfl ?_
        refine R_iconst X dX10_reachFor_153 ?_
        refine R_iadd X dX10_reachFor_154 ?_
        refine R_dup2 X dX10_reachFor_155 rfl rfl ?_
        obtain ⟨hq18, hf⟩ := zgrd hf
        refine R_iald X lc_216 hq18 dX10_reachFor_156 ?_
        refine R_iconst X dX10_reachFor_157 ?_
        refine R_iadd X dX10_reachFor_158 ?_
        obtain ⟨M19, eM19, hf⟩ := zlt_some hf
        refine R_iast X lc_216 hq18 dX10_reachFor_159 ?_
        refine R_mem eM19 ?_
        refine R_aload_n X 1 dX10_reachFor_160 rfl rfl ?_
        refine R_getR X (j := 0) 1 216 lc_215 rfl inX10 (by decide) rfl rfl (by decide) rfl rfl wf_X10_7 dX10_reachFor_161 ?_
        refine R_iload X 0 dX10_reachFor_164 rfl ?_
        refine R_iconst X dX10_reachFor_166 ?_
        refine R_iadd X dX10_reachFor_167 ?_
        refine R_dup2 X dX10_reachFor_168 rfl rfl ?_
        obtain ⟨hq20, hf⟩ := zgrd hf
        refine R_iald X lc_216 hq20 dX10_reachFor_169 ?_
        refine R_aload_n X 1 dX10_reachFor_170 rfl rfl ?_
        refine R_getI X (j := 7) lc_215 rfl inX10 (by decide) rfl rfl rfl wf_X10_131 dX10_reachFor_171 ?_
        refine R_iadd X dX10_reachFor_174 ?_
        obtain ⟨M21, eM21, hf⟩ := zlt_some hf
        refine R_iast X lc_216 hq20 dX10_reachFor_175 ?_
        refine R_mem eM21 ?_
        refine R_aload_n X 1 dX10_reachFor_176 rfl rfl ?_
        refine R_getR X (j := 0) 1 216 lc_215 rfl inX10 (by decide) rfl rfl (by decide) rfl rfl wf_X10_7 dX10_reachFor_177 ?_
        refine R_iload X 0 dX10_reachFor_180 rfl ?_
        refine R_iconst X dX10_reachFor_182 ?_
        refine R_iadd X dX10_reachFor_183 ?_
        refine R_dup2 X dX10_reachFor_184 rfl rfl ?_
        obtain ⟨hq22, hf⟩ := zgrd hf
        refine R_iald X lc_216 hq22 dX10_reachFor_185 ?_
        refine R_aload_n X 1 dX10_reachFor_186 rfl rfl ?_
        refine R_getI X (j := 11) lc_215 rfl inX10 (by decide) rfl rfl rfl wf_X10_134 dX10_reachFor_187 ?_
        obtain ⟨hq23, hf⟩ := zgrd hf
        refine R_if_eq X 197 hq23 dX10_reachFor_190 (by decide) (fun c24 => ?_) (fun c24 => ?_)
        · have hf := zthen hf c24
          refine R_iconst X dX10_reachFor_197 ?_
          exact R_sub [1, 0] rfl (hB198 x17 0 (M21 216 (x17 + 3).toNat) (x17 + 3) M21 hf)
        · have hf := zelse hf c24
          refine R_iconst X dX10_reachFor_193 ?_
          refine R_goto X 198 dX10_reachFor_194 (by decide) ?_
          exact R_sub [1, 0] rfl (hB198 x17 1 (M21 216 (x17 + 3).toNat) (x17 + 3) M21 hf)
      · have hf := zelse hf c31
        refine R_aload_n X 0 dX10_reachFor_99 rfl rfl ?_
        refine R_getR X (j := 0) 1 216 lc_215 rfl inX10 (by decide) rfl rfl (by decide) rfl rfl wf_X10_7 dX10_reachFor_100 ?_
        refine R_iconst X dX10_reachFor_103 ?_
        refine R_iconst X dX10_reachFor_104 ?_
        refine R_iload X 2 dX10_reachFor_105 rfl ?_
        refine R_imul X dX10_reachFor_107 ?_
        refine R_iadd X dX10_reachFor_108 ?_
        refine R_iconst X dX10_reachFor_109 ?_
        refine R_iadd X dX10_reachFor_110 ?_
        refine R_dup2 X dX10_reachFor_111 rfl rfl ?_
        obtain ⟨hq25, hf⟩ := zgrd hf
        refine R_iald X lc_216 hq25 dX10_reachFor_112 ?_
        refine R_aload_n X 0 dX10_reachFor_113 rfl rfl ?_
        refine R_getI X (j := 10) lc_215 rfl inX10 (by decide) rfl rfl rfl wf_X10_119 dX10_reachFor_114 ?_
        refine R_iload X 2 dX10_reachFor_117 rfl ?_
        obtain ⟨r26, M27, hc28, hf⟩ := zbnd_some hf
        refine R_callSi X (av := [.int (zI (M 215 10)), .int (zI v5)]) (rest := [.int (zI (M 216 ((0 + (4 * v5)) + 3).toNat)), .int (zI ((0 + (4 * v5)) + 3)), .ref (ad 216)]) (c_X10_has l D cas ad hi hc28) zy_X10_has wm_X10_122 rfl rfl ⟨Nat.le_of_ble_eq_true rfl, Nat.le_of_ble_eq_true rfl⟩ ⟨Nat.le_refl _, Nat.le_refl _⟩ (Nat.le_of_ble_eq_true rfl) dX10_reachFor_119 ?_
        obtain ⟨hq29, hf⟩ := zgrd hf
        refine R_if_eq X 129 hq29 dX10_reachFor_122 (by decide) (fun c30 => ?_) (fun c30 => ?_)
        · have hf := zthen hf c30
          refine R_iconst X dX10_reachFor_129 ?_
          exact R_sub [0, 1, 2] rfl (hB130 (f_X10_reachFor_b86 n) ih v1 v5 0 (M 216 ((0 + (4 * v5)) + 3).toNat) ((0 + (4 * v5)) + 3) M27 hf)
        · have hf := zelse hf c30
          refine R_iconst X dX10_reachFor_125 ?_
          refine R_goto X 130 dX10_reachFor_126 (by decide) ?_
          exact R_sub [0, 1, 2] rfl (hB130 (f_X10_reachFor_b86 n) ih v1 v5 1 (M 216 ((0 + (4 * v5)) + 3).toNat) ((0 + (4 * v5)) + 3) M27 hf)
  have hB57 : ∀ (v1 v3 t3 t2 : Int) (M : Mem), f_X10_reachFor_b57 v1 v3 t3 t2 M = some (r, M') → WW p l e (zrm 4 94) s m args below meth c D cas ad (zA ad) 6 0 0 (MQ below (zQi D cas ad r M') args s 0 0 (zA ad)) 57 [(0, .ref (ad 215)), (1, .int (zI v1)), (3, .int (zI v3))] [.int (zI t3), .int (zI t2), .ref (ad 216)] M := by
    intro v1 v3 t3 t2 M hf
    unfold f_X10_reachFor_b57 at hf
    obtain ⟨hq10, hf⟩ := zgrd hf
    obtain ⟨M11, eM11, hf⟩ := zlt_some hf
    refine R_iast X lc_216 hq10 dX10_reachFor_57 ?_
    refine R_mem eM11 ?_
    refine R_aload_n X 0 dX10_reachFor_58 rfl rfl ?_
    refine R_getR X (j := 0) 1 216 lc_215 rfl inX10 (by decide) rfl rfl (by decide) rfl rfl wf_X10_7 dX10_reachFor_59 ?_
    refine R_sipush X dX10_reachFor_62 (by decide +kernel) ?_
    refine R_bipush X dX10_reachFor_65 (by decide +kernel) ?_
    refine R_iload_n X 1 dX10_reachFor_67 rfl rfl ?_
    refine R_imul X dX10_reachFor_68 ?_
    refine R_iadd X dX10_reachFor_69 ?_
    refine R_iload_n X 2 dX10_reachFor_70 rfl rfl ?_
    refine R_iadd X dX10_reachFor_71 ?_
    refine R_aload_n X 0 dX10_reachFor_72 rfl rfl ?_
    refine R_getR X (j := 0) 1 216 lc_215 rfl inX10 (by decide) rfl rfl (by decide) rfl rfl wf_X10_7 dX10_reachFor_73 ?_
    refine R_sipush X dX10_reachFor_76 (by decide +kernel) ?_
    refine R_iload_n X 2 dX10_reachFor_79 rfl rfl ?_
    refine R_iadd X dX10_reachFor_80 ?_
    obtain ⟨hq12, hf⟩ := zgrd hf
    refine R_iald X lc_216 hq12 dX10_reachFor_81 ?_
    obtain ⟨hq13, hf⟩ := zgrd hf
    obtain ⟨M14, eM14, hf⟩ := zlt_some hf
    refine R_iast X lc_216 hq13 dX10_reachFor_82 ?_
    refine R_mem eM14 ?_
    refine R_iconst X dX10_reachFor_83 ?_
    refine R_istore X (lv' := [(5, .int (zI 0)), (0, .ref (ad 215)), (1, .int (zI v1)), (3, .int (zI v3))]) dX10_reachFor_84 (by decide) rfl ?_
    exact R_sub [1, 2, 0] rfl (hB86 100000 v1 0 M14 hf)
  unfold f_X10_reachFor at hf
  refine (?_ : WW p l e (zrm 4 94) s m args below meth c D cas ad (zA ad) 6 0 0 (MQ below (zQi D cas ad r M') args s 0 0 (zA ad)) 0 [(0, .ref (ad 215)), (1, .int (zI v1)), (2, .int (zI v2))] [] M)
  refine R_iload_n X 2 dX10_reachFor_0 rfl rfl ?_
  refine R_bipush X dX10_reachFor_1 (by decide +kernel) ?_
  obtain ⟨hq1, hf⟩ := zgrd hf
  refine R_idiv X ⟨⟨hq1, (by decide)⟩, (by decide)⟩ dX10_reachFor_3 ?_
  obtain ⟨x2, ex2, hf⟩ := zlt_some hf
  refine R_istore_nX X (lv' := [(3, .int (zI x2)), (0, .ref (ad 215)), (1, .int (zI v1)), (2, .int (zI v2))]) ex2 dX10_reachFor_4 rfl (by decide) rfl ?_
  refine R_aload_n X 1 dX10_reachFor_5 rfl rfl ?_
  refine R_iload_n X 2 dX10_reachFor_6 rfl rfl ?_
  refine R_iload_n X 0 dX10_reachFor_7 rfl rfl ?_
  obtain ⟨r3, M4, hc5, hf⟩ := zbnd_some hf
  refine R_callVv X (av := [.int (zI v1), .int (zI x2)]) (rest := []) (c_X10_findWay l D cas ad hi hc5) zy_X10_findWay lc_215 rfl rfl wm_X10_144 rfl rfl ⟨Nat.le_of_ble_eq_true rfl, Nat.le_of_ble_eq_true rfl⟩ ⟨Nat.le_refl _, Nat.le_refl _⟩ (Nat.le_of_ble_eq_true rfl) dX10_reachFor_8 ?_
  refine R_aload_n X 1 dX10_reachFor_11 rfl rfl ?_
  refine R_getR X (j := 0) 1 216 lc_215 rfl inX10 (by decide) rfl rfl (by decide) rfl rfl wf_X10_7 dX10_reachFor_12 ?_
  refine R_sipush X dX10_reachFor_15 (by decide +kernel) ?_
  refine R_iload_n X 0 dX10_reachFor_18 rfl rfl ?_
  refine R_iadd X dX10_reachFor_19 ?_
  obtain ⟨hq6, hf⟩ := zgrd hf
  refine R_iald X lc_216 hq6 dX10_reachFor_20 ?_
  refine R_aload_n X 1 dX10_reachFor_21 rfl rfl ?_
  refine R_getR X (j := 0) 1 216 lc_215 rfl inX10 (by decide) rfl rfl (by decide) rfl rfl wf_X10_7 dX10_reachFor_22 ?_
  refine R_sipush X dX10_reachFor_25 (by decide +kernel) ?_
  refine R_iald X lc_216 (by decide) dX10_reachFor_28 ?_
  refine R_iadd X dX10_reachFor_29 ?_
  obtain ⟨x7, ex7, hf⟩ := zlt_some hf
  refine R_istoreX X (lv' := [(4, .int (zI x7)), (3, .int (zI x2)), (0, .ref (ad 215)), (1, .int (zI v1)), (2, .int (zI v2))]) ex7 dX10_reachFor_30 (by decide) rfl ?_
  refine R_aload_n X 2 dX10_reachFor_32 rfl rfl ?_
  refine R_getR X (j := 0) 1 216 lc_215 rfl inX10 (by decide) rfl rfl (by decide) rfl rfl wf_X10_7 dX10_reachFor_33 ?_
  refine R_sipush X dX10_reachFor_36 (by decide +kernel) ?_
  refine R_iload_n X 1 dX10_reachFor_39 rfl rfl ?_
  refine R_iadd X dX10_reachFor_40 ?_
  refine R_iload X 0 dX10_reachFor_41 rfl ?_
  refine R_sipush X dX10_reachFor_43 (by decide +kernel) ?_
  obtain ⟨hq8, hf⟩ := zgrd hf
  refine R_icmp_le X 55 ⟨hq8, (by decide)⟩ dX10_reachFor_46 (by decide) (fun c9 => ?_) (fun c9 => ?_)
  · have hf := zthen hf c9
    refine R_iload X 0 dX10_reachFor_55 rfl ?_
    exact R_sub [2, 3, 1] rfl (hB57 v1 x2 x7 (432 + x2) M4 hf)
  · have hf := zelse hf c9
    refine R_sipush X dX10_reachFor_49 (by decide +kernel) ?_
    refine R_goto X 57 dX10_reachFor_52 (by decide) ?_
    exact R_sub [2, 3, 1] rfl (hB57 v1 x2 9999 (432 + x2) M4 hf)
theorem dX10_readRequests_0 : decode cX10_readRequests 0 = .ok (.aload_n 0, 1) := by decide +kernel
theorem dX10_readRequests_1 : decode cX10_readRequests 1 = .ok (.invokevirtual 180, 3) := by decide +kernel
theorem dX10_readRequests_4 : decode cX10_readRequests 4 = .ok (.istore_n 1, 1) := by decide +kernel
theorem dX10_readRequests_5 : decode cX10_readRequests 5 = .ok (.iload_n 1, 1) := by decide +kernel
theorem dX10_readRequests_6 : decode cX10_readRequests 6 = .ok (.ifCond .lt 8, 3) := by decide +kernel
theorem dX10_readRequests_9 : decode cX10_readRequests 9 = .ok (.bipush (-100), 2) := by decide +kernel
theorem dX10_readRequests_11 : decode cX10_readRequests 11 = .ok (.iload_n 1, 1) := by decide +kernel
theorem dX10_readRequests_12 : decode cX10_readRequests 12 = .ok (.isub, 1) := by decide +kernel
theorem dX10_readRequests_13 : decode cX10_readRequests 13 = .ok (.ireturn, 1) := by decide +kernel
theorem dX10_readRequests_14 : decode cX10_readRequests 14 = .ok (.aload_n 0, 1) := by decide +kernel
theorem dX10_readRequests_15 : decode cX10_readRequests 15 = .ok (.invokevirtual 183, 3) := by decide +kernel
theorem dX10_readRequests_18 : decode cX10_readRequests 18 = .ok (.ifCond .ne 5, 3) := by decide +kernel
theorem dX10_readRequests_21 : decode cX10_readRequests 21 = .ok (.iconst (-1), 1) := by decide +kernel
theorem dX10_readRequests_22 : decode cX10_readRequests 22 = .ok (.ireturn, 1) := by decide +kernel
theorem dX10_readRequests_23 : decode cX10_readRequests 23 = .ok (.aload_n 0, 1) := by decide +kernel
theorem dX10_readRequests_24 : decode cX10_readRequests 24 = .ok (.invokevirtual 31, 3) := by decide +kernel
theorem dX10_readRequests_27 : decode cX10_readRequests 27 = .ok (.iconst 0, 1) := by decide +kernel
theorem dX10_readRequests_28 : decode cX10_readRequests 28 = .ok (.istore_n 2, 1) := by decide +kernel
theorem dX10_readRequests_29 : decode cX10_readRequests 29 = .ok (.iconst 0, 1) := by decide +kernel
theorem dX10_readRequests_30 : decode cX10_readRequests 30 = .ok (.istore_n 3, 1) := by decide +kernel
theorem dX10_readRequests_31 : decode cX10_readRequests 31 = .ok (.iload_n 3, 1) := by decide +kernel
theorem dX10_readRequests_32 : decode cX10_readRequests 32 = .ok (.aload_n 0, 1) := by decide +kernel
theorem dX10_readRequests_33 : decode cX10_readRequests 33 = .ok (.getfield 156, 3) := by decide +kernel
theorem dX10_readRequests_36 : decode cX10_readRequests 36 = .ok (.if_icmp .ge 105, 3) := by decide +kernel
theorem dX10_readRequests_39 : decode cX10_readRequests 39 = .ok (.aload_n 0, 1) := by decide +kernel
theorem dX10_readRequests_40 : decode cX10_readRequests 40 = .ok (.iload_n 3, 1) := by decide +kernel
theorem dX10_readRequests_41 : decode cX10_readRequests 41 = .ok (.iconst 2, 1) := by decide +kernel
theorem dX10_readRequests_42 : decode cX10_readRequests 42 = .ok (.iadd, 1) := by decide +kernel
theorem dX10_readRequests_43 : decode cX10_readRequests 43 = .ok (.invokevirtual 174, 3) := by decide +kernel
theorem dX10_readRequests_46 : decode cX10_readRequests 46 = .ok (.istore 4, 2) := by decide +kernel
theorem dX10_readRequests_48 : decode cX10_readRequests 48 = .ok (.iload_n 3, 1) := by decide +kernel
theorem dX10_readRequests_49 : decode cX10_readRequests 49 = .ok (.istore 5, 2) := by decide +kernel
theorem dX10_readRequests_51 : decode cX10_readRequests 51 = .ok (.iload 5, 2) := by decide +kernel
theorem dX10_readRequests_53 : decode cX10_readRequests 53 = .ok (.aload_n 0, 1) := by decide +kernel
theorem dX10_readRequests_54 : decode cX10_readRequests 54 = .ok (.iload_n 3, 1) := by decide +kernel
theorem dX10_readRequests_55 : decode cX10_readRequests 55 = .ok (.invokevirtual 177, 3) := by decide +kernel
theorem dX10_readRequests_58 : decode cX10_readRequests 58 = .ok (.iconst 1, 1) := by decide +kernel
theorem dX10_readRequests_59 : decode cX10_readRequests 59 = .ok (.isub, 1) := by decide +kernel
theorem dX10_readRequests_60 : decode cX10_readRequests 60 = .ok (.if_icmp .ge 54, 3) := by decide +kernel
theorem dX10_readRequests_63 : decode cX10_readRequests 63 = .ok (.aload_n 0, 1) := by decide +kernel
theorem dX10_readRequests_64 : decode cX10_readRequests 64 = .ok (.getfield 7, 3) := by decide +kernel
theorem dX10_readRequests_67 : decode cX10_readRequests 67 = .ok (.sipush 464, 3) := by decide +kernel
theorem dX10_readRequests_70 : decode cX10_readRequests 70 = .ok (.iload 4, 2) := by decide +kernel
theorem dX10_readRequests_72 : decode cX10_readRequests 72 = .ok (.iadd, 1) := by decide +kernel
theorem dX10_readRequests_73 : decode cX10_readRequests 73 = .ok (.aload_n 0, 1) := by decide +kernel
theorem dX10_readRequests_74 : decode cX10_readRequests 74 = .ok (.getfield 13, 3) := by decide +kernel
theorem dX10_readRequests_77 : decode cX10_readRequests 77 = .ok (.iload 5, 2) := by decide +kernel
theorem dX10_readRequests_79 : decode cX10_readRequests 79 = .ok (.iaload, 1) := by decide +kernel
theorem dX10_readRequests_80 : decode cX10_readRequests 80 = .ok (.bipush 61, 2) := by decide +kernel
theorem dX10_readRequests_82 : decode cX10_readRequests 82 = .ok (.if_icmp .ne 14, 3) := by decide +kernel
theorem dX10_readRequests_85 : decode cX10_readRequests 85 = .ok (.aload_n 0, 1) := by decide +kernel
theorem dX10_readRequests_86 : decode cX10_readRequests 86 = .ok (.iload 5, 2) := by decide +kernel
theorem dX10_readRequests_88 : decode cX10_readRequests 88 = .ok (.iconst 1, 1) := by decide +kernel
theorem dX10_readRequests_89 : decode cX10_readRequests 89 = .ok (.iadd, 1) := by decide +kernel
theorem dX10_readRequests_90 : decode cX10_readRequests 90 = .ok (.invokevirtual 174, 3) := by decide +kernel
theorem dX10_readRequests_93 : decode cX10_readRequests 93 = .ok (.goto 14, 3) := by decide +kernel
theorem dX10_readRequests_96 : decode cX10_readRequests 96 = .ok (.aload_n 0, 1) := by decide +kernel
theorem dX10_readRequests_97 : decode cX10_readRequests 97 = .ok (.getfield 7, 3) := by decide +kernel
theorem dX10_readRequests_100 : decode cX10_readRequests 100 = .ok (.sipush 464, 3) := by decide +kernel
theorem dX10_readRequests_103 : decode cX10_readRequests 103 = .ok (.iload 4, 2) := by decide +kernel
theorem dX10_readRequests_105 : decode cX10_readRequests 105 = .ok (.iadd, 1) := by decide +kernel
theorem dX10_readRequests_106 : decode cX10_readRequests 106 = .ok (.iaload, 1) := by decide +kernel
theorem dX10_readRequests_107 : decode cX10_readRequests 107 = .ok (.iastore, 1) := by decide +kernel
theorem dX10_readRequests_108 : decode cX10_readRequests 108 = .ok (.iinc 5 1, 3) := by decide +kernel
theorem dX10_readRequests_111 : decode cX10_readRequests 111 = .ok (.goto (-60), 3) := by decide +kernel
theorem dX10_readRequests_114 : decode cX10_readRequests 114 = .ok (.iload_n 2, 1) := by decide +kernel
theorem dX10_readRequests_115 : decode cX10_readRequests 115 = .ok (.aload_n 0, 1) := by decide +kernel
theorem dX10_readRequests_116 : decode cX10_readRequests 116 = .ok (.aload_n 0, 1) := by decide +kernel
theorem dX10_readRequests_117 : decode cX10_readRequests 117 = .ok (.getfield 13, 3) := by decide +kernel
theorem dX10_readRequests_120 : decode cX10_readRequests 120 = .ok (.iload_n 3, 1) := by decide +kernel
theorem dX10_readRequests_121 : decode cX10_readRequests 121 = .ok (.iaload, 1) := by decide +kernel
theorem dX10_readRequests_122 : decode cX10_readRequests 122 = .ok (.bipush 48, 2) := by decide +kernel
theorem dX10_readRequests_124 : decode cX10_readRequests 124 = .ok (.isub, 1) := by decide +kernel
theorem dX10_readRequests_125 : decode cX10_readRequests 125 = .ok (.iload 4, 2) := by decide +kernel
theorem dX10_readRequests_127 : decode cX10_readRequests 127 = .ok (.invokevirtual 153, 3) := by decide +kernel
theorem dX10_readRequests_130 : decode cX10_readRequests 130 = .ok (.iadd, 1) := by decide +kernel
theorem dX10_readRequests_131 : decode cX10_readRequests 131 = .ok (.istore_n 2, 1) := by decide +kernel
theorem dX10_readRequests_132 : decode cX10_readRequests 132 = .ok (.aload_n 0, 1) := by decide +kernel
theorem dX10_readRequests_133 : decode cX10_readRequests 133 = .ok (.iload_n 3, 1) := by decide +kernel
theorem dX10_readRequests_134 : decode cX10_readRequests 134 = .ok (.invokevirtual 177, 3) := by decide +kernel
theorem dX10_readRequests_137 : decode cX10_readRequests 137 = .ok (.istore_n 3, 1) := by decide +kernel
theorem dX10_readRequests_138 : decode cX10_readRequests 138 = .ok (.goto (-107), 3) := by decide +kernel
theorem dX10_readRequests_141 : decode cX10_readRequests 141 = .ok (.iload_n 2, 1) := by decide +kernel
theorem dX10_readRequests_142 : decode cX10_readRequests 142 = .ok (.ireturn, 1) := by decide +kernel
set_option maxRecDepth 100000 in
set_option maxHeartbeats 4000000 in
theorem c_X10_readRequests (l : Launch) (D : va_G) (cas : Nat → ClassId) (ad : Nat → Nat) (hi : zInj ad)   {r : Int} {M M' : Mem} (hf : f_X10_readRequests M = some (r, M')) : zMi l D cas ad yX10_readRequests cX10_readRequests 6 (some .int) 5 119 [.ref (ad 215)] M r M' := by
  refine zbody (by decide) (Nat.le_of_ble_eq_true rfl) hi ?_
  intro p e s m args below meth c X hr hk0
  have X : zX p s m args c cX10_readRequests "ShardTrailsModel" 6 D cas ad (zA ad) := X
  have hB107 : ∀ (g31 : Int → Int → Mem → Option (Int × Mem)) (hg31 : ∀ (v2 v3 : Int) (M : Mem), g31 v2 v3 M = some (r, M') → WW p l e (zrm 5 119) s m args below meth c D cas ad (zA ad) 6 0 0 (MQ below (zQi D cas ad r M') args s 0 0 (zA ad)) 31 [(0, .ref (ad 215)), (2, .int (zI v2)), (3, .int (zI v3))] [] M) (g51 : Int → Int → Int → Int → Mem → Option (Int × Mem)) (hg51 : ∀ (v2 v3 v4 v5 : Int) (M : Mem), g51 v2 v3 v4 v5 M = some (r, M') → WW p l e (zrm 5 119) s m args below meth c D cas ad (zA ad) 6 0 0 (MQ below (zQi D cas ad r M') args s 0 0 (zA ad)) 51 [(0, .ref (ad 215)), (2, .int (zI v2)), (3, .int (zI v3)), (4, .int (zI v4)), (5, .int (zI v5))] [] M) (v2 v3 v4 v5 t3 t2 : Int) (M : Mem), f_X10_readRequests_b107 g31 g51 v2 v3 v4 v5 t3 t2 M = some (r, M') → WW p l e (zrm 5 119) s m args below meth c D cas ad (zA ad) 6 0 0 (MQ below (zQi D cas ad r M') args s 0 0 (zA ad)) 107 [(0, .ref (ad 215)), (2, .int (zI v2)), (3, .int (zI v3)), (4, .int (zI v4)), (5, .int (zI v5))] [.int (zI t3), .int (zI t2), .ref (ad 216)] M := by
    intro g31 hg31 g51 hg51 v2 v3 v4 v5 t3 t2 M hf
    unfold f_X10_readRequests_b107 at hf
    obtain ⟨hq41, hf⟩ := zgrd hf
    obtain ⟨M42, eM42, hf⟩ := zlt_some hf
    refine R_iast X lc_216 hq41 dX10_readRequests_107 ?_
    refine R_mem eM42 ?_
    refine R_iinc X (lv' := [(5, .int (zI (v5 + 1))), (0, .ref (ad 215)), (2, .int (zI v2)), (3, .int (zI v3)), (4, .int (zI v4))]) 4 dX10_readRequests_108 rfl (by decide) rfl ?_
    refine R_goto X 51 dX10_readRequests_111 (by decide) ?_
    exact R_sub [1, 2, 3, 4, 0] rfl (hg51 v2 v3 v4 (v5 + 1) M42 hf)
  have hB51 : ∀ (g31 : Int → Int → Mem → Option (Int × Mem)) (hg31 : ∀ (v2 v3 : Int) (M : Mem), g31 v2 v3 M = some (r, M') → WW p l e (zrm 5 119) s m args below meth c D cas ad (zA ad) 6 0 0 (MQ below (zQi D cas ad r M') args s 0 0 (zA ad)) 31 [(0, .ref (ad 215)), (2, .int (zI v2)), (3, .int (zI v3))] [] M) (n : Nat) (v2 v3 v4 v5 : Int) (M : Mem), f_X10_readRequests_b51 g31 n v2 v3 v4 v5 M = some (r, M') → WW p l e (zrm 5 119) s m args below meth c D cas ad (zA ad) 6 0 0 (MQ below (zQi D cas ad r M') args s 0 0 (zA ad)) 51 [(0, .ref (ad 215)), (2, .int (zI v2)), (3, .int (zI v3)), (4, .int (zI v4)), (5, .int (zI v5))] [] M := by
    intro g31 hg31 n
    induction n with
    | zero => intro v2 v3 v4 v5 M hf; exact absurd hf (by unfold f_X10_readRequests_b51; simp)
    | succ n ih =>
      intro v2 v3 v4 v5 M hf
      unfold f_X10_readRequests_b51 at hf
      refine R_iload X 4 dX10_readRequests_51 rfl ?_
      refine R_aload_n X 0 dX10_readRequests_53 rfl rfl ?_
      refine R_iload_n X 2 dX10_readRequests_54 rfl rfl ?_
      obtain ⟨r20, M21, hc22, hf⟩ := zbnd_some hf
      refine R_callVi X (av := [.int (zI v3)]) (rest := [.int (zI v5)]) (c_X10_nextBehind l D cas ad hi hc22) zy_X10_nextBehind lc_215 rfl rfl wm_X10_177 rfl rfl ⟨Nat.le_of_ble_eq_true rfl, Nat.le_of_ble_eq_true rfl⟩ ⟨Nat.le_refl _, Nat.le_refl _⟩ (Nat.le_of_ble_eq_true rfl) dX10_readRequests_55 ?_
      refine R_iconst X dX10_readRequests_58 ?_
      refine R_isub X dX10_readRequests_59 ?_
      obtain ⟨hq23, hf⟩ := zgrd hf
      obtain ⟨hq24, hf⟩ := zgrd hf
      refine R_icmp_ge X 114 ⟨hq23, hq24⟩ dX10_readRequests_60 (by decide) (fun c40 => ?_) (fun c40 => ?_)
      · have hf := zthen hf c40
        refine R_iload_n X 1 dX10_readRequests_114 rfl rfl ?_
        refine R_aload_n X 0 dX10_readRequests_115 rfl rfl ?_
        refine R_aload_n X 0 dX10_readRequests_116 rfl rfl ?_
        refine R_getR X (j := 3) 2 217 lc_215 rfl inX10 (by decide) rfl rfl (by decide) rfl rfl wf_X10_13 dX10_readRequests_117 ?_
        refine R_iload_n X 2 dX10_readRequests_120 rfl rfl ?_
        obtain ⟨hq25, hf⟩ := zgrd hf
        refine R_iald X lc_217 hq25 dX10_readRequests_121 ?_
        refine R_bipush X dX10_readRequests_122 (by decide +kernel) ?_
        refine R_isub X dX10_readRequests_124 ?_
        refine R_iload X 3 dX10_readRequests_125 rfl ?_
        obtain ⟨r26, M27, hc28, hf⟩ := zbnd_some hf
        refine R_callVi X (av := [.int (zI ((M21 217 v3.toNat) - 48)), .int (zI v4)]) (rest := [.int (zI v2)]) (c_X10_reachFor l D cas ad hi hc28) zy_X10_reachFor lc_215 rfl rfl wm_X10_153 rfl rfl ⟨Nat.le_of_ble_eq_true rfl, Nat.le_of_ble_eq_true rfl⟩ ⟨Nat.le_refl _, Nat.le_refl _⟩ (Nat.le_of_ble_eq_true rfl) dX10_readRequests_127 ?_
        refine R_iadd X dX10_readRequests_130 ?_
        obtain ⟨x29, ex29, hf⟩ := zlt_some hf
        refine R_istore_nX X (lv' := [(2, .int (zI x29)), (0, .ref (ad 215)), (3, .int (zI v3)), (4, .int (zI v4)), (5, .int (zI v5))]) ex29 dX10_readRequests_131 rfl (by decide) rfl ?_
        refine R_aload_n X 1 dX10_readRequests_132 rfl rfl ?_
        refine R_iload_n X 2 dX10_readRequests_133 rfl rfl ?_
        obtain ⟨r30, M31, hc32, hf⟩ := zbnd_some hf
        refine R_callVi X (av := [.int (zI v3)]) (rest := []) (c_X10_nextBehind l D cas ad hi hc32) zy_X10_nextBehind lc_215 rfl rfl wm_X10_177 rfl rfl ⟨Nat.le_of_ble_eq_true rfl, Nat.le_of_ble_eq_true rfl⟩ ⟨Nat.le_refl _, Nat.le_refl _⟩ (Nat.le_of_ble_eq_true rfl) dX10_readRequests_134 ?_
        refine R_istore_n X (lv' := [(3, .int (zI r30)), (2, .int (zI x29)), (0, .ref (ad 215)), (4, .int (zI v4)), (5, .int (zI v5))]) dX10_readRequests_137 rfl (by decide) rfl ?_
        refine R_goto X 31 dX10_readRequests_138 (by decide) ?_
        exact R_sub [2, 1, 0] rfl (hg31 x29 r30 M31 hf)
      · have hf := zelse hf c40
        refine R_aload_n X 0 dX10_readRequests_63 rfl rfl ?_
        refine R_getR X (j := 0) 1 216 lc_215 rfl inX10 (by decide) rfl rfl (by decide) rfl rfl wf_X10_7 dX10_readRequests_64 ?_
        refine R_sipush X dX10_readRequests_67 (by decide +kernel) ?_
        refine R_iload X 3 dX10_readRequests_70 rfl ?_
        refine R_iadd X dX10_readRequests_72 ?_
        refine R_aload_n X 0 dX10_readRequests_73 rfl rfl ?_
        refine R_getR X (j := 3) 2 217 lc_215 rfl inX10 (by decide) rfl rfl (by decide) rfl rfl wf_X10_13 dX10_readRequests_74 ?_
        refine R_iload X 4 dX10_readRequests_77 rfl ?_
        obtain ⟨hq33, hf⟩ := zgrd hf
        refine R_iald X lc_217 hq33 dX10_readRequests_79 ?_
        refine R_bipush X dX10_readRequests_80 (by decide +kernel) ?_
        obtain ⟨hq34, hf⟩ := zgrd hf
        refine R_icmp_ne X 96 ⟨hq34, (by decide)⟩ dX10_readRequests_82 (by decide) (fun c39 => ?_) (fun c39 => ?_)
        · have hf := zelse hf c39
          refine R_aload_n X 0 dX10_readRequests_96 rfl rfl ?_
          refine R_getR X (j := 0) 1 216 lc_215 rfl inX10 (by decide) rfl rfl (by decide) rfl rfl wf_X10_7 dX10_readRequests_97 ?_
          refine R_sipush X dX10_readRequests_100 (by decide +kernel) ?_
          refine R_iload X 3 dX10_readRequests_103 rfl ?_
          refine R_iadd X dX10_readRequests_105 ?_
          obtain ⟨hq35, hf⟩ := zgrd hf
          refine R_iald X lc_216 hq35 dX10_readRequests_106 ?_
          exact R_sub [0, 1, 2, 3, 4] rfl (hB107 g31 hg31 (f_X10_readRequests_b51 g31 n) ih v2 v3 v4 v5 (M21 216 (464 + v4).toNat) (464 + v4) M21 hf)
        · have hf := zthen hf c39
          refine R_aload_n X 0 dX10_readRequests_85 rfl rfl ?_
          refine R_iload X 4 dX10_readRequests_86 rfl ?_
          refine R_iconst X dX10_readRequests_88 ?_
          refine R_iadd X dX10_readRequests_89 ?_
          obtain ⟨r36, M37, hc38, hf⟩ := zbnd_some hf
          refine R_callVi X (av := [.int (zI (v5 + 1))]) (rest := [.int (zI (464 + v4)), .ref (ad 216)]) (c_X10_numberAt l D cas ad hi hc38) zy_X10_numberAt lc_215 rfl rfl wm_X10_174 rfl rfl ⟨Nat.le_of_ble_eq_true rfl, Nat.le_of_ble_eq_true rfl⟩ ⟨Nat.le_refl _, Nat.le_refl _⟩ (Nat.le_of_ble_eq_true rfl) dX10_readRequests_90 ?_
          refine R_goto X 107 dX10_readRequests_93 (by decide) ?_
          exact R_sub [0, 1, 2, 3, 4] rfl (hB107 g31 hg31 (f_X10_readRequests_b51 g31 n) ih v2 v3 v4 v5 r36 (464 + v4) M37 hf)
  have hB31 : ∀ (n : Nat) (v2 v3 : Int) (M : Mem), f_X10_readRequests_b31 n v2 v3 M = some (r, M') → WW p l e (zrm 5 119) s m args below meth c D cas ad (zA ad) 6 0 0 (MQ below (zQi D cas ad r M') args s 0 0 (zA ad)) 31 [(0, .ref (ad 215)), (2, .int (zI v2)), (3, .int (zI v3))] [] M := by
    intro n
    induction n with
    | zero => intro v2 v3 M hf; exact absurd hf (by unfold f_X10_readRequests_b31; simp)
    | succ n ih =>
      intro v2 v3 M hf
      unfold f_X10_readRequests_b31 at hf
      refine R_iload_n X 2 dX10_readRequests_31 rfl rfl ?_
      refine R_aload_n X 0 dX10_readRequests_32 rfl rfl ?_
      refine R_getI X (j := 4) lc_215 rfl inX10 (by decide) rfl rfl rfl wf_X10_156 dX10_readRequests_33 ?_
      obtain ⟨hq14, hf⟩ := zgrd hf
      obtain ⟨hq15, hf⟩ := zgrd hf
      refine R_icmp_ge X 141 ⟨hq14, hq15⟩ dX10_readRequests_36 (by decide) (fun c19 => ?_) (fun c19 => ?_)
      · have hf := zthen hf c19
        refine R_iload_n X 1 dX10_readRequests_141 rfl rfl ?_
        exact R_iret X hr hk0 dX10_readRequests_142 hf
      · have hf := zelse hf c19
        refine R_aload_n X 0 dX10_readRequests_39 rfl rfl ?_
        refine R_iload_n X 2 dX10_readRequests_40 rfl rfl ?_
        refine R_iconst X dX10_readRequests_41 ?_
        refine R_iadd X dX10_readRequests_42 ?_
        obtain ⟨r16, M17, hc18, hf⟩ := zbnd_some hf
        refine R_callVi X (av := [.int (zI (v3 + 2))]) (rest := []) (c_X10_numberAt l D cas ad hi hc18) zy_X10_numberAt lc_215 rfl rfl wm_X10_174 rfl rfl ⟨Nat.le_of_ble_eq_true rfl, Nat.le_of_ble_eq_true rfl⟩ ⟨Nat.le_refl _, Nat.le_refl _⟩ (Nat.le_of_ble_eq_true rfl) dX10_readRequests_43 ?_
        refine R_istore X (lv' := [(4, .int (zI r16)), (0, .ref (ad 215)), (2, .int (zI v2)), (3, .int (zI v3))]) dX10_readRequests_46 (by decide) rfl ?_
        refine R_iload_n X 3 dX10_readRequests_48 rfl rfl ?_
        refine R_istore X (lv' := [(5, .int (zI v3)), (4, .int (zI r16)), (0, .ref (ad 215)), (2, .int (zI v2)), (3, .int (zI v3))]) dX10_readRequests_49 (by decide) rfl ?_
        exact R_sub [2, 3, 4, 1, 0] rfl (hB51 (f_X10_readRequests_b31 n) ih 100000 v2 v3 r16 v3 M17 hf)
  unfold f_X10_readRequests at hf
  refine (?_ : WW p l e (zrm 5 119) s m args below meth c D cas ad (zA ad) 6 0 0 (MQ below (zQi D cas ad r M') args s 0 0 (zA ad)) 0 [(0, .ref (ad 215))] [] M)
  refine R_aload_n X 0 dX10_readRequests_0 rfl rfl ?_
  obtain ⟨r1, M2, hc3, hf⟩ := zbnd_some hf
  refine R_callVi X (av := []) (rest := []) (c_X10_faultOf l D cas ad hi hc3) zy_X10_faultOf lc_215 rfl rfl wm_X10_180 rfl rfl ⟨Nat.le_of_ble_eq_true rfl, Nat.le_of_ble_eq_true rfl⟩ ⟨Nat.le_refl _, Nat.le_refl _⟩ (Nat.le_of_ble_eq_true rfl) dX10_readRequests_1 ?_
  refine R_istore_n X (lv' := [(1, .int (zI r1)), (0, .ref (ad 215))]) dX10_readRequests_4 rfl (by decide) rfl ?_
  refine R_iload_n X 0 dX10_readRequests_5 rfl rfl ?_
  obtain ⟨hq4, hf⟩ := zgrd hf
  refine R_if_lt X 14 hq4 dX10_readRequests_6 (by decide) (fun c13 => ?_) (fun c13 => ?_)
  · have hf := zthen hf c13
    refine R_aload_n X 1 dX10_readRequests_14 rfl rfl ?_
    obtain ⟨r5, M6, hc7, hf⟩ := zbnd_some hf
    refine R_callVi X (av := []) (rest := []) (c_X10_areKnown l D cas ad hi hc7) zy_X10_areKnown lc_215 rfl rfl wm_X10_183 rfl rfl ⟨Nat.le_of_ble_eq_true rfl, Nat.le_of_ble_eq_true rfl⟩ ⟨Nat.le_refl _, Nat.le_refl _⟩ (Nat.le_of_ble_eq_true rfl) dX10_readRequests_15 ?_
    obtain ⟨hq8, hf⟩ := zgrd hf
    refine R_if_ne X 23 hq8 dX10_readRequests_18 (by decide) (fun c12 => ?_) (fun c12 => ?_)
    · have hf := zelse hf c12
      refine R_aload_n X 1 dX10_readRequests_23 rfl rfl ?_
      obtain ⟨r9, M10, hc11, hf⟩ := zbnd_some hf
      refine R_callVv X (av := []) (rest := []) (c_X10_record l D cas ad hi hc11) zy_X10_record lc_215 rfl rfl wm_X10_31 rfl rfl ⟨Nat.le_of_ble_eq_true rfl, Nat.le_of_ble_eq_true rfl⟩ ⟨Nat.le_refl _, Nat.le_refl _⟩ (Nat.le_of_ble_eq_true rfl) dX10_readRequests_24 ?_
      refine R_iconst X dX10_readRequests_27 ?_
      refine R_istore_n X (lv' := [(2, .int (zI 0)), (1, .int (zI r1)), (0, .ref (ad 215))]) dX10_readRequests_28 rfl (by decide) rfl ?_
      refine R_iconst X dX10_readRequests_29 ?_
      refine R_istore_n X (lv' := [(3, .int (zI 0)), (2, .int (zI 0)), (1, .int (zI r1)), (0, .ref (ad 215))]) dX10_readRequests_30 rfl (by decide) rfl ?_
      exact R_sub [3, 1, 0] rfl (hB31 100000 0 0 M10 hf)
    · have hf := zthen hf c12
      refine R_iconst X dX10_readRequests_21 ?_
      exact R_iret X hr hk0 dX10_readRequests_22 hf
  · have hf := zelse hf c13
    refine R_bipush X dX10_readRequests_9 (by decide +kernel) ?_
    refine R_iload_n X 0 dX10_readRequests_11 rfl rfl ?_
    refine R_isub X dX10_readRequests_12 ?_
    exact R_iret X hr hk0 dX10_readRequests_13 hf
theorem dX10_reader_0 : decode cX10_reader 0 = .ok (.aload_n 0, 1) := by decide +kernel
theorem dX10_reader_1 : decode cX10_reader 1 = .ok (.iload_n 1, 1) := by decide +kernel
theorem dX10_reader_2 : decode cX10_reader 2 = .ok (.invokevirtual 147, 3) := by decide +kernel
theorem dX10_reader_5 : decode cX10_reader 5 = .ok (.ifCond .ne 5, 3) := by decide +kernel
theorem dX10_reader_8 : decode cX10_reader 8 = .ok (.iconst (-1), 1) := by decide +kernel
theorem dX10_reader_9 : decode cX10_reader 9 = .ok (.ireturn, 1) := by decide +kernel
theorem dX10_reader_10 : decode cX10_reader 10 = .ok (.iload_n 2, 1) := by decide +kernel
theorem dX10_reader_11 : decode cX10_reader 11 = .ok (.iconst 0, 1) := by decide +kernel
theorem dX10_reader_12 : decode cX10_reader 12 = .ok (.iconst 4, 1) := by decide +kernel
theorem dX10_reader_13 : decode cX10_reader 13 = .ok (.invokestatic 34, 3) := by decide +kernel
theorem dX10_reader_16 : decode cX10_reader 16 = .ok (.ifCond .eq 20, 3) := by decide +kernel
theorem dX10_reader_19 : decode cX10_reader 19 = .ok (.aload_n 0, 1) := by decide +kernel
theorem dX10_reader_20 : decode cX10_reader 20 = .ok (.getfield 7, 3) := by decide +kernel
theorem dX10_reader_23 : decode cX10_reader 23 = .ok (.sipush 726, 3) := by decide +kernel
theorem dX10_reader_26 : decode cX10_reader 26 = .ok (.iconst 5, 1) := by decide +kernel
theorem dX10_reader_27 : decode cX10_reader 27 = .ok (.iload_n 1, 1) := by decide +kernel
theorem dX10_reader_28 : decode cX10_reader 28 = .ok (.imul, 1) := by decide +kernel
theorem dX10_reader_29 : decode cX10_reader 29 = .ok (.iadd, 1) := by decide +kernel
theorem dX10_reader_30 : decode cX10_reader 30 = .ok (.iload_n 2, 1) := by decide +kernel
theorem dX10_reader_31 : decode cX10_reader 31 = .ok (.iadd, 1) := by decide +kernel
theorem dX10_reader_32 : decode cX10_reader 32 = .ok (.iaload, 1) := by decide +kernel
theorem dX10_reader_33 : decode cX10_reader 33 = .ok (.goto 5, 3) := by decide +kernel
theorem dX10_reader_36 : decode cX10_reader 36 = .ok (.bipush (-2), 2) := by decide +kernel
theorem dX10_reader_38 : decode cX10_reader 38 = .ok (.ireturn, 1) := by decide +kernel
set_option maxRecDepth 100000 in
set_option maxHeartbeats 4000000 in
theorem c_X10_reader (l : Launch) (D : va_G) (cas : Nat → ClassId) (ad : Nat → Nat) (hi : zInj ad) {v1 : Int} {v2 : Int}  {r : Int} {M M' : Mem} (hf : f_X10_reader v1 v2 M = some (r, M')) : zMi l D cas ad yX10_reader cX10_reader 3 (some .int) 2 43 [.ref (ad 215), .int (zI v1), .int (zI v2)] M r M' := by
  refine zbody (by decide) (Nat.le_of_ble_eq_true rfl) hi ?_
  intro p e s m args below meth c X hr hk0
  have X : zX p s m args c cX10_reader "ShardTrailsModel" 3 D cas ad (zA ad) := X
  have hB38 : ∀ (t1 : Int) (M : Mem), f_X10_reader_b38 t1 M = some (r, M') → WW p l e (zrm 2 43) s m args below meth c D cas ad (zA ad) 3 0 0 (MQ below (zQi D cas ad r M') args s 0 0 (zA ad)) 38 [] [.int (zI t1)] M := by
    intro t1 M hf
    unfold f_X10_reader_b38 at hf
    exact R_iret X hr hk0 dX10_reader_38 hf
  unfold f_X10_reader at hf
  refine (?_ : WW p l e (zrm 2 43) s m args below meth c D cas ad (zA ad) 3 0 0 (MQ below (zQi D cas ad r M') args s 0 0 (zA ad)) 0 [(0, .ref (ad 215)), (1, .int (zI v1)), (2, .int (zI v2))] [] M)
  refine R_aload_n X 0 dX10_reader_0 rfl rfl ?_
  refine R_iload_n X 1 dX10_reader_1 rfl rfl ?_
  obtain ⟨r1, M2, hc3, hf⟩ := zbnd_some hf
  refine R_callVi X (av := [.int (zI v1)]) (rest := []) (c_X10_isReader l D cas ad hi hc3) zy_X10_isReader lc_215 rfl rfl wm_X10_147 rfl rfl ⟨Nat.le_of_ble_eq_true rfl, Nat.le_of_ble_eq_true rfl⟩ ⟨Nat.le_refl _, Nat.le_refl _⟩ (Nat.le_of_ble_eq_true rfl) dX10_reader_2 ?_
  obtain ⟨hq4, hf⟩ := zgrd hf
  refine R_if_ne X 10 hq4 dX10_reader_5 (by decide) (fun c11 => ?_) (fun c11 => ?_)
  · have hf := zelse hf c11
    refine R_iload_n X 2 dX10_reader_10 rfl rfl ?_
    refine R_iconst X dX10_reader_11 ?_
    refine R_iconst X dX10_reader_12 ?_
    obtain ⟨r5, M6, hc7, hf⟩ := zbnd_some hf
    refine R_callSi X (av := [.int (zI v2), .int (zI 0), .int (zI 4)]) (rest := []) (c_X10_in l D cas ad hi hc7) zy_X10_in wm_X10_34 rfl rfl ⟨Nat.le_of_ble_eq_true rfl, Nat.le_of_ble_eq_true rfl⟩ ⟨Nat.le_refl _, Nat.le_refl _⟩ (Nat.le_of_ble_eq_true rfl) dX10_reader_13 ?_
    obtain ⟨hq8, hf⟩ := zgrd hf
    refine R_if_eq X 36 hq8 dX10_reader_16 (by decide) (fun c10 => ?_) (fun c10 => ?_)
    · have hf := zthen hf c10
      refine R_bipush X dX10_reader_36 (by decide +kernel) ?_
      exact R_sub [] rfl (hB38 (-2) M6 hf)
    · have hf := zelse hf c10
      refine R_aload_n X 0 dX10_reader_19 rfl rfl ?_
      refine R_getR X (j := 0) 1 216 lc_215 rfl inX10 (by decide) rfl rfl (by decide) rfl rfl wf_X10_7 dX10_reader_20 ?_
      refine R_sipush X dX10_reader_23 (by decide +kernel) ?_
      refine R_iconst X dX10_reader_26 ?_
      refine R_iload_n X 1 dX10_reader_27 rfl rfl ?_
      refine R_imul X dX10_reader_28 ?_
      refine R_iadd X dX10_reader_29 ?_
      refine R_iload_n X 2 dX10_reader_30 rfl rfl ?_
      refine R_iadd X dX10_reader_31 ?_
      obtain ⟨hq9, hf⟩ := zgrd hf
      refine R_iald X lc_216 hq9 dX10_reader_32 ?_
      refine R_goto X 38 dX10_reader_33 (by decide) ?_
      exact R_sub [] rfl (hB38 (M6 216 ((726 + (5 * v1)) + v2).toNat) M6 hf)
  · have hf := zthen hf c11
    refine R_iconst X dX10_reader_8 ?_
    exact R_iret X hr hk0 dX10_reader_9 hf
theorem dX10_remembered_0 : decode cX10_remembered 0 = .ok (.aload_n 0, 1) := by decide +kernel
theorem dX10_remembered_1 : decode cX10_remembered 1 = .ok (.iload_n 1, 1) := by decide +kernel
theorem dX10_remembered_2 : decode cX10_remembered 2 = .ok (.invokevirtual 147, 3) := by decide +kernel
theorem dX10_remembered_5 : decode cX10_remembered 5 = .ok (.ifCond .eq 28, 3) := by decide +kernel
theorem dX10_remembered_8 : decode cX10_remembered 8 = .ok (.iload_n 2, 1) := by decide +kernel
theorem dX10_remembered_9 : decode cX10_remembered 9 = .ok (.invokestatic 74, 3) := by decide +kernel
theorem dX10_remembered_12 : decode cX10_remembered 12 = .ok (.ifCond .eq 21, 3) := by decide +kernel
theorem dX10_remembered_15 : decode cX10_remembered 15 = .ok (.aload_n 0, 1) := by decide +kernel
theorem dX10_remembered_16 : decode cX10_remembered 16 = .ok (.getfield 7, 3) := by decide +kernel
theorem dX10_remembered_19 : decode cX10_remembered 19 = .ok (.sipush 756, 3) := by decide +kernel
theorem dX10_remembered_22 : decode cX10_remembered 22 = .ok (.bipush 16, 2) := by decide +kernel
theorem dX10_remembered_24 : decode cX10_remembered 24 = .ok (.iload_n 1, 1) := by decide +kernel
theorem dX10_remembered_25 : decode cX10_remembered 25 = .ok (.imul, 1) := by decide +kernel
theorem dX10_remembered_26 : decode cX10_remembered 26 = .ok (.iadd, 1) := by decide +kernel
theorem dX10_remembered_27 : decode cX10_remembered 27 = .ok (.iload_n 2, 1) := by decide +kernel
theorem dX10_remembered_28 : decode cX10_remembered 28 = .ok (.iadd, 1) := by decide +kernel
theorem dX10_remembered_29 : decode cX10_remembered 29 = .ok (.iaload, 1) := by decide +kernel
theorem dX10_remembered_30 : decode cX10_remembered 30 = .ok (.goto 4, 3) := by decide +kernel
theorem dX10_remembered_33 : decode cX10_remembered 33 = .ok (.iconst (-1), 1) := by decide +kernel
theorem dX10_remembered_34 : decode cX10_remembered 34 = .ok (.ireturn, 1) := by decide +kernel
set_option maxRecDepth 100000 in
set_option maxHeartbeats 4000000 in
theorem c_X10_remembered (l : Launch) (D : va_G) (cas : Nat → ClassId) (ad : Nat → Nat) (hi : zInj ad) {v1 : Int} {v2 : Int}  {r : Int} {M M' : Mem} (hf : f_X10_remembered v1 v2 M = some (r, M')) : zMi l D cas ad yX10_remembered cX10_remembered 3 (some .int) 2 43 [.ref (ad 215), .int (zI v1), .int (zI v2)] M r M' := by
  refine zbody (by decide) (Nat.le_of_ble_eq_true rfl) hi ?_
  intro p e s m args below meth c X hr hk0
  have X : zX p s m args c cX10_remembered "ShardTrailsModel" 3 D cas ad (zA ad) := X
  have hB34 : ∀ (t1 : Int) (M : Mem), f_X10_remembered_b34 t1 M = some (r, M') → WW p l e (zrm 2 43) s m args below meth c D cas ad (zA ad) 3 0 0 (MQ below (zQi D cas ad r M') args s 0 0 (zA ad)) 34 [] [.int (zI t1)] M := by
    intro t1 M hf
    unfold f_X10_remembered_b34 at hf
    exact R_iret X hr hk0 dX10_remembered_34 hf
  have hB33 : ∀ (M : Mem), f_X10_remembered_b33 M = some (r, M') → WW p l e (zrm 2 43) s m args below meth c D cas ad (zA ad) 3 0 0 (MQ below (zQi D cas ad r M') args s 0 0 (zA ad)) 33 [] [] M := by
    intro M hf
    unfold f_X10_remembered_b33 at hf
    refine R_iconst X dX10_remembered_33 ?_
    exact R_sub [] rfl (hB34 (-1) M hf)
  unfold f_X10_remembered at hf
  refine (?_ : WW p l e (zrm 2 43) s m args below meth c D cas ad (zA ad) 3 0 0 (MQ below (zQi D cas ad r M') args s 0 0 (zA ad)) 0 [(0, .ref (ad 215)), (1, .int (zI v1)), (2, .int (zI v2))] [] M)
  refine R_aload_n X 0 dX10_remembered_0 rfl rfl ?_
  refine R_iload_n X 1 dX10_remembered_1 rfl rfl ?_
  obtain ⟨r1, M2, hc3, hf⟩ := zbnd_some hf
  refine R_callVi X (av := [.int (zI v1)]) (rest := []) (c_X10_isReader l D cas ad hi hc3) zy_X10_isReader lc_215 rfl rfl wm_X10_147 rfl rfl ⟨Nat.le_of_ble_eq_true rfl, Nat.le_of_ble_eq_true rfl⟩ ⟨Nat.le_refl _, Nat.le_refl _⟩ (Nat.le_of_ble_eq_true rfl) dX10_remembered_2 ?_
  obtain ⟨hq4, hf⟩ := zgrd hf
  refine R_if_eq X 33 hq4 dX10_remembered_5 (by decide) (fun c11 => ?_) (fun c11 => ?_)
  · have hf := zthen hf c11
    exact R_sub [] rfl (hB33 M2 hf)
  · have hf := zelse hf c11
    refine R_iload_n X 2 dX10_remembered_8 rfl rfl ?_
    obtain ⟨r5, M6, hc7, hf⟩ := zbnd_some hf
    refine R_callSi X (av := [.int (zI v2)]) (rest := []) (c_X10_isShard l D cas ad hi hc7) zy_X10_isShard wm_X10_74 rfl rfl ⟨Nat.le_of_ble_eq_true rfl, Nat.le_of_ble_eq_true rfl⟩ ⟨Nat.le_refl _, Nat.le_refl _⟩ (Nat.le_of_ble_eq_true rfl) dX10_remembered_9 ?_
    obtain ⟨hq8, hf⟩ := zgrd hf
    refine R_if_eq X 33 hq8 dX10_remembered_12 (by decide) (fun c10 => ?_) (fun c10 => ?_)
    · have hf := zthen hf c10
      exact R_sub [] rfl (hB33 M6 hf)
    · have hf := zelse hf c10
      refine R_aload_n X 0 dX10_remembered_15 rfl rfl ?_
      refine R_getR X (j := 0) 1 216 lc_215 rfl inX10 (by decide) rfl rfl (by decide) rfl rfl wf_X10_7 dX10_remembered_16 ?_
      refine R_sipush X dX10_remembered_19 (by decide +kernel) ?_
      refine R_bipush X dX10_remembered_22 (by decide +kernel) ?_
      refine R_iload_n X 1 dX10_remembered_24 rfl rfl ?_
      refine R_imul X dX10_remembered_25 ?_
      refine R_iadd X dX10_remembered_26 ?_
      refine R_iload_n X 2 dX10_remembered_27 rfl rfl ?_
      refine R_iadd X dX10_remembered_28 ?_
      obtain ⟨hq9, hf⟩ := zgrd hf
      refine R_iald X lc_216 hq9 dX10_remembered_29 ?_
      refine R_goto X 34 dX10_remembered_30 (by decide) ?_
      exact R_sub [] rfl (hB34 (M6 216 ((756 + (16 * v1)) + v2).toNat) M6 hf)
theorem dX10_request_0 : decode cX10_request 0 = .ok (.aload_n 0, 1) := by decide +kernel
theorem dX10_request_1 : decode cX10_request 1 = .ok (.iload_n 1, 1) := by decide +kernel
theorem dX10_request_2 : decode cX10_request 2 = .ok (.invokevirtual 147, 3) := by decide +kernel
theorem dX10_request_5 : decode cX10_request 5 = .ok (.ifCond .eq 10, 3) := by decide +kernel
theorem dX10_request_8 : decode cX10_request 8 = .ok (.iload_n 2, 1) := by decide +kernel
theorem dX10_request_9 : decode cX10_request 9 = .ok (.invokestatic 150, 3) := by decide +kernel
theorem dX10_request_12 : decode cX10_request 12 = .ok (.ifCond .ne 5, 3) := by decide +kernel
theorem dX10_request_15 : decode cX10_request 15 = .ok (.iconst (-1), 1) := by decide +kernel
theorem dX10_request_16 : decode cX10_request 16 = .ok (.ireturn, 1) := by decide +kernel
theorem dX10_request_17 : decode cX10_request 17 = .ok (.aload_n 0, 1) := by decide +kernel
theorem dX10_request_18 : decode cX10_request 18 = .ok (.invokevirtual 31, 3) := by decide +kernel
theorem dX10_request_21 : decode cX10_request 21 = .ok (.aload_n 0, 1) := by decide +kernel
theorem dX10_request_22 : decode cX10_request 22 = .ok (.iload_n 1, 1) := by decide +kernel
theorem dX10_request_23 : decode cX10_request 23 = .ok (.iload_n 2, 1) := by decide +kernel
theorem dX10_request_24 : decode cX10_request 24 = .ok (.invokevirtual 153, 3) := by decide +kernel
theorem dX10_request_27 : decode cX10_request 27 = .ok (.ireturn, 1) := by decide +kernel
set_option maxRecDepth 100000 in
set_option maxHeartbeats 4000000 in
theorem c_X10_request (l : Launch) (D : va_G) (cas : Nat → ClassId) (ad : Nat → Nat) (hi : zInj ad) {v1 : Int} {v2 : Int}  {r : Int} {M M' : Mem} (hf : f_X10_request v1 v2 M = some (r, M')) : zMi l D cas ad yX10_request cX10_request 3 (some .int) 5 119 [.ref (ad 215), .int (zI v1), .int (zI v2)] M r M' := by
  refine zbody (by decide) (Nat.le_of_ble_eq_true rfl) hi ?_
  intro p e s m args below meth c X hr hk0
  have X : zX p s m args c cX10_request "ShardTrailsModel" 3 D cas ad (zA ad) := X
  have hB15 : ∀ (M : Mem), f_X10_request_b15 M = some (r, M') → WW p l e (zrm 5 119) s m args below meth c D cas ad (zA ad) 3 0 0 (MQ below (zQi D cas ad r M') args s 0 0 (zA ad)) 15 [] [] M := by
    intro M hf
    unfold f_X10_request_b15 at hf
    refine R_iconst X dX10_request_15 ?_
    exact R_iret X hr hk0 dX10_request_16 hf
  unfold f_X10_request at hf
  refine (?_ : WW p l e (zrm 5 119) s m args below meth c D cas ad (zA ad) 3 0 0 (MQ below (zQi D cas ad r M') args s 0 0 (zA ad)) 0 [(0, .ref (ad 215)), (1, .int (zI v1)), (2, .int (zI v2))] [] M)
  refine R_aload_n X 0 dX10_request_0 rfl rfl ?_
  refine R_iload_n X 1 dX10_request_1 rfl rfl ?_
  obtain ⟨r1, M2, hc3, hf⟩ := zbnd_some hf
  refine R_callVi X (av := [.int (zI v1)]) (rest := []) (c_X10_isReader l D cas ad hi hc3) zy_X10_isReader lc_215 rfl rfl wm_X10_147 rfl rfl ⟨Nat.le_of_ble_eq_true rfl, Nat.le_of_ble_eq_true rfl⟩ ⟨Nat.le_refl _, Nat.le_refl _⟩ (Nat.le_of_ble_eq_true rfl) dX10_request_2 ?_
  obtain ⟨hq4, hf⟩ := zgrd hf
  refine R_if_eq X 15 hq4 dX10_request_5 (by decide) (fun c16 => ?_) (fun c16 => ?_)
  · have hf := zthen hf c16
    exact R_sub [] rfl (hB15 M2 hf)
  · have hf := zelse hf c16
    refine R_iload_n X 2 dX10_request_8 rfl rfl ?_
    obtain ⟨r5, M6, hc7, hf⟩ := zbnd_some hf
    refine R_callSi X (av := [.int (zI v2)]) (rest := []) (c_X10_isKey l D cas ad hi hc7) zy_X10_isKey wm_X10_150 rfl rfl ⟨Nat.le_of_ble_eq_true rfl, Nat.le_of_ble_eq_true rfl⟩ ⟨Nat.le_refl _, Nat.le_refl _⟩ (Nat.le_of_ble_eq_true rfl) dX10_request_9 ?_
    obtain ⟨hq8, hf⟩ := zgrd hf
    refine R_if_ne X 17 hq8 dX10_request_12 (by decide) (fun c15 => ?_) (fun c15 => ?_)
    · have hf := zelse hf c15
      refine R_aload_n X 0 dX10_request_17 rfl rfl ?_
      obtain ⟨r9, M10, hc11, hf⟩ := zbnd_some hf
      refine R_callVv X (av := []) (rest := []) (c_X10_record l D cas ad hi hc11) zy_X10_record lc_215 rfl rfl wm_X10_31 rfl rfl ⟨Nat.le_of_ble_eq_true rfl, Nat.le_of_ble_eq_true rfl⟩ ⟨Nat.le_refl _, Nat.le_refl _⟩ (Nat.le_of_ble_eq_true rfl) dX10_request_18 ?_
      refine R_aload_n X 0 dX10_request_21 rfl rfl ?_
      refine R_iload_n X 1 dX10_request_22 rfl rfl ?_
      refine R_iload_n X 2 dX10_request_23 rfl rfl ?_
      obtain ⟨r12, M13, hc14, hf⟩ := zbnd_some hf
      refine R_callVi X (av := [.int (zI v1), .int (zI v2)]) (rest := []) (c_X10_reachFor l D cas ad hi hc14) zy_X10_reachFor lc_215 rfl rfl wm_X10_153 rfl rfl ⟨Nat.le_of_ble_eq_true rfl, Nat.le_of_ble_eq_true rfl⟩ ⟨Nat.le_refl _, Nat.le_refl _⟩ (Nat.le_of_ble_eq_true rfl) dX10_request_24 ?_
      exact R_iret X hr hk0 dX10_request_27 hf
    · have hf := zthen hf c15
      exact R_sub [] rfl (hB15 M6 hf)
theorem dX10_restore_0 : decode cX10_restore 0 = .ok (.aload_n 0, 1) := by decide +kernel
theorem dX10_restore_1 : decode cX10_restore 1 = .ok (.getfield 27, 3) := by decide +kernel
theorem dX10_restore_4 : decode cX10_restore 4 = .ok (.ifCond .ne 6, 3) := by decide +kernel
theorem dX10_restore_7 : decode cX10_restore 7 = .ok (.bipush (-5), 2) := by decide +kernel
theorem dX10_restore_9 : decode cX10_restore 9 = .ok (.ireturn, 1) := by decide +kernel
theorem dX10_restore_10 : decode cX10_restore 10 = .ok (.aload_n 0, 1) := by decide +kernel
theorem dX10_restore_11 : decode cX10_restore 11 = .ok (.invokevirtual 31, 3) := by decide +kernel
theorem dX10_restore_14 : decode cX10_restore 14 = .ok (.aload_n 0, 1) := by decide +kernel
theorem dX10_restore_15 : decode cX10_restore 15 = .ok (.sipush 4355, 3) := by decide +kernel
theorem dX10_restore_18 : decode cX10_restore 18 = .ok (.iconst 0, 1) := by decide +kernel
theorem dX10_restore_19 : decode cX10_restore 19 = .ok (.invokevirtual 23, 3) := by decide +kernel
theorem dX10_restore_22 : decode cX10_restore 22 = .ok (.aload_n 0, 1) := by decide +kernel
theorem dX10_restore_23 : decode cX10_restore 23 = .ok (.getfield 7, 3) := by decide +kernel
theorem dX10_restore_26 : decode cX10_restore 26 = .ok (.sipush 862, 3) := by decide +kernel
theorem dX10_restore_29 : decode cX10_restore 29 = .ok (.iaload, 1) := by decide +kernel
theorem dX10_restore_30 : decode cX10_restore 30 = .ok (.ireturn, 1) := by decide +kernel
set_option maxRecDepth 100000 in
set_option maxHeartbeats 4000000 in
theorem c_X10_restore (l : Launch) (D : va_G) (cas : Nat → ClassId) (ad : Nat → Nat) (hi : zInj ad)   {r : Int} {M M' : Mem} (hf : f_X10_restore M = some (r, M')) : zMi l D cas ad yX10_restore cX10_restore 1 (some .int) 2 44 [.ref (ad 215)] M r M' := by
  refine zbody (by decide) (Nat.le_of_ble_eq_true rfl) hi ?_
  intro p e s m args below meth c X hr hk0
  have X : zX p s m args c cX10_restore "ShardTrailsModel" 1 D cas ad (zA ad) := X
  unfold f_X10_restore at hf
  refine (?_ : WW p l e (zrm 2 44) s m args below meth c D cas ad (zA ad) 1 0 0 (MQ below (zQi D cas ad r M') args s 0 0 (zA ad)) 0 [(0, .ref (ad 215))] [] M)
  refine R_aload_n X 0 dX10_restore_0 rfl rfl ?_
  refine R_getI X (j := 2) lc_215 rfl inX10 (by decide) rfl rfl rfl wf_X10_27 dX10_restore_1 ?_
  obtain ⟨hq1, hf⟩ := zgrd hf
  refine R_if_ne X 10 hq1 dX10_restore_4 (by decide) (fun c8 => ?_) (fun c8 => ?_)
  · have hf := zelse hf c8
    refine R_aload_n X 0 dX10_restore_10 rfl rfl ?_
    obtain ⟨r2, M3, hc4, hf⟩ := zbnd_some hf
    refine R_callVv X (av := []) (rest := []) (c_X10_record l D cas ad hi hc4) zy_X10_record lc_215 rfl rfl wm_X10_31 rfl rfl ⟨Nat.le_of_ble_eq_true rfl, Nat.le_of_ble_eq_true rfl⟩ ⟨Nat.le_refl _, Nat.le_refl _⟩ (Nat.le_of_ble_eq_true rfl) dX10_restore_11 ?_
    refine R_aload_n X 0 dX10_restore_14 rfl rfl ?_
    refine R_sipush X dX10_restore_15 (by decide +kernel) ?_
    refine R_iconst X dX10_restore_18 ?_
    obtain ⟨r5, M6, hc7, hf⟩ := zbnd_some hf
    refine R_callVv X (av := [.int (zI 4355), .int (zI 0)]) (rest := []) (c_X10_copy l D cas ad hi hc7) zy_X10_copy lc_215 rfl rfl wm_X10_23 rfl rfl ⟨Nat.le_of_ble_eq_true rfl, Nat.le_of_ble_eq_true rfl⟩ ⟨Nat.le_refl _, Nat.le_refl _⟩ (Nat.le_of_ble_eq_true rfl) dX10_restore_19 ?_
    refine R_aload_n X 0 dX10_restore_22 rfl rfl ?_
    refine R_getR X (j := 0) 1 216 lc_215 rfl inX10 (by decide) rfl rfl (by decide) rfl rfl wf_X10_7 dX10_restore_23 ?_
    refine R_sipush X dX10_restore_26 (by decide +kernel) ?_
    refine R_iald X lc_216 (by decide) dX10_restore_29 ?_
    exact R_iret X hr hk0 dX10_restore_30 hf
  · have hf := zthen hf c8
    refine R_bipush X dX10_restore_7 (by decide +kernel) ?_
    exact R_iret X hr hk0 dX10_restore_9 hf
theorem dX10_set_0 : decode cX10_set 0 = .ok (.iload_n 1, 1) := by decide +kernel
theorem dX10_set_1 : decode cX10_set 1 = .ok (.iload_n 2, 1) := by decide +kernel
theorem dX10_set_2 : decode cX10_set 2 = .ok (.invokestatic 60, 3) := by decide +kernel
theorem dX10_set_5 : decode cX10_set 5 = .ok (.ifCond .eq 16, 3) := by decide +kernel
theorem dX10_set_8 : decode cX10_set 8 = .ok (.aload_n 0, 1) := by decide +kernel
theorem dX10_set_9 : decode cX10_set 9 = .ok (.sipush 856, 3) := by decide +kernel
theorem dX10_set_12 : decode cX10_set 12 = .ok (.iload_n 1, 1) := by decide +kernel
theorem dX10_set_13 : decode cX10_set 13 = .ok (.iadd, 1) := by decide +kernel
theorem dX10_set_14 : decode cX10_set 14 = .ok (.iload_n 2, 1) := by decide +kernel
theorem dX10_set_15 : decode cX10_set 15 = .ok (.invokevirtual 56, 3) := by decide +kernel
theorem dX10_set_18 : decode cX10_set 18 = .ok (.goto 5, 3) := by decide +kernel
theorem dX10_set_21 : decode cX10_set 21 = .ok (.bipush (-2), 2) := by decide +kernel
theorem dX10_set_23 : decode cX10_set 23 = .ok (.ireturn, 1) := by decide +kernel
set_option maxRecDepth 100000 in
set_option maxHeartbeats 4000000 in
theorem c_X10_set (l : Launch) (D : va_G) (cas : Nat → ClassId) (ad : Nat → Nat) (hi : zInj ad) {v1 : Int} {v2 : Int}  {r : Int} {M M' : Mem} (hf : f_X10_set v1 v2 M = some (r, M')) : zMi l D cas ad yX10_set cX10_set 3 (some .int) 3 67 [.ref (ad 215), .int (zI v1), .int (zI v2)] M r M' := by
  refine zbody (by decide) (Nat.le_of_ble_eq_true rfl) hi ?_
  intro p e s m args below meth c X hr hk0
  have X : zX p s m args c cX10_set "ShardTrailsModel" 3 D cas ad (zA ad) := X
  have hB23 : ∀ (t1 : Int) (M : Mem), f_X10_set_b23 t1 M = some (r, M') → WW p l e (zrm 3 67) s m args below meth c D cas ad (zA ad) 3 0 0 (MQ below (zQi D cas ad r M') args s 0 0 (zA ad)) 23 [] [.int (zI t1)] M := by
    intro t1 M hf
    unfold f_X10_set_b23 at hf
    exact R_iret X hr hk0 dX10_set_23 hf
  unfold f_X10_set at hf
  refine (?_ : WW p l e (zrm 3 67) s m args below meth c D cas ad (zA ad) 3 0 0 (MQ below (zQi D cas ad r M') args s 0 0 (zA ad)) 0 [(0, .ref (ad 215)), (1, .int (zI v1)), (2, .int (zI v2))] [] M)
  refine R_iload_n X 1 dX10_set_0 rfl rfl ?_
  refine R_iload_n X 2 dX10_set_1 rfl rfl ?_
  obtain ⟨r1, M2, hc3, hf⟩ := zbnd_some hf
  refine R_callSi X (av := [.int (zI v1), .int (zI v2)]) (rest := []) (c_X10_isSetting l D cas ad hi hc3) zy_X10_isSetting wm_X10_60 rfl rfl ⟨Nat.le_of_ble_eq_true rfl, Nat.le_of_ble_eq_true rfl⟩ ⟨Nat.le_refl _, Nat.le_refl _⟩ (Nat.le_of_ble_eq_true rfl) dX10_set_2 ?_
  obtain ⟨hq4, hf⟩ := zgrd hf
  refine R_if_eq X 21 hq4 dX10_set_5 (by decide) (fun c8 => ?_) (fun c8 => ?_)
  · have hf := zthen hf c8
    refine R_bipush X dX10_set_21 (by decide +kernel) ?_
    exact R_sub [] rfl (hB23 (-2) M2 hf)
  · have hf := zelse hf c8
    refine R_aload_n X 0 dX10_set_8 rfl rfl ?_
    refine R_sipush X dX10_set_9 (by decide +kernel) ?_
    refine R_iload_n X 1 dX10_set_12 rfl rfl ?_
    refine R_iadd X dX10_set_13 ?_
    refine R_iload_n X 2 dX10_set_14 rfl rfl ?_
    obtain ⟨r5, M6, hc7, hf⟩ := zbnd_some hf
    refine R_callVi X (av := [.int (zI (856 + v1)), .int (zI v2)]) (rest := []) (c_X10_put l D cas ad hi hc7) zy_X10_put lc_215 rfl rfl wm_X10_56 rfl rfl ⟨Nat.le_of_ble_eq_true rfl, Nat.le_of_ble_eq_true rfl⟩ ⟨Nat.le_refl _, Nat.le_refl _⟩ (Nat.le_of_ble_eq_true rfl) dX10_set_15 ?_
    refine R_goto X 23 dX10_set_18 (by decide) ?_
    exact R_sub [] rfl (hB23 r5 M6 hf)
theorem dX10_setInn_0 : decode cX10_setInn 0 = .ok (.aload_n 0, 1) := by decide +kernel
theorem dX10_setInn_1 : decode cX10_setInn 1 = .ok (.iload_n 1, 1) := by decide +kernel
theorem dX10_setInn_2 : decode cX10_setInn 2 = .ok (.invokevirtual 42, 3) := by decide +kernel
theorem dX10_setInn_5 : decode cX10_setInn 5 = .ok (.ifCond .ne 5, 3) := by decide +kernel
theorem dX10_setInn_8 : decode cX10_setInn 8 = .ok (.iconst (-1), 1) := by decide +kernel
theorem dX10_setInn_9 : decode cX10_setInn 9 = .ok (.ireturn, 1) := by decide +kernel
theorem dX10_setInn_10 : decode cX10_setInn 10 = .ok (.aload_n 0, 1) := by decide +kernel
theorem dX10_setInn_11 : decode cX10_setInn 11 = .ok (.iload_n 1, 1) := by decide +kernel
theorem dX10_setInn_12 : decode cX10_setInn 12 = .ok (.invokevirtual 38, 3) := by decide +kernel
theorem dX10_setInn_15 : decode cX10_setInn 15 = .ok (.iload_n 2, 1) := by decide +kernel
theorem dX10_setInn_16 : decode cX10_setInn 16 = .ok (.if_icmp .ne 6, 3) := by decide +kernel
theorem dX10_setInn_19 : decode cX10_setInn 19 = .ok (.bipush (-5), 2) := by decide +kernel
theorem dX10_setInn_21 : decode cX10_setInn 21 = .ok (.ireturn, 1) := by decide +kernel
theorem dX10_setInn_22 : decode cX10_setInn 22 = .ok (.aload_n 0, 1) := by decide +kernel
theorem dX10_setInn_23 : decode cX10_setInn 23 = .ok (.invokevirtual 31, 3) := by decide +kernel
theorem dX10_setInn_26 : decode cX10_setInn 26 = .ok (.aload_n 0, 1) := by decide +kernel
theorem dX10_setInn_27 : decode cX10_setInn 27 = .ok (.getfield 7, 3) := by decide +kernel
theorem dX10_setInn_30 : decode cX10_setInn 30 = .ok (.iconst 0, 1) := by decide +kernel
theorem dX10_setInn_31 : decode cX10_setInn 31 = .ok (.iconst 4, 1) := by decide +kernel
theorem dX10_setInn_32 : decode cX10_setInn 32 = .ok (.iload_n 1, 1) := by decide +kernel
theorem dX10_setInn_33 : decode cX10_setInn 33 = .ok (.imul, 1) := by decide +kernel
theorem dX10_setInn_34 : decode cX10_setInn 34 = .ok (.iadd, 1) := by decide +kernel
theorem dX10_setInn_35 : decode cX10_setInn 35 = .ok (.iconst 2, 1) := by decide +kernel
theorem dX10_setInn_36 : decode cX10_setInn 36 = .ok (.iadd, 1) := by decide +kernel
theorem dX10_setInn_37 : decode cX10_setInn 37 = .ok (.iload_n 2, 1) := by decide +kernel
theorem dX10_setInn_38 : decode cX10_setInn 38 = .ok (.ifCond .eq 7, 3) := by decide +kernel
theorem dX10_setInn_41 : decode cX10_setInn 41 = .ok (.iconst 1, 1) := by decide +kernel
theorem dX10_setInn_42 : decode cX10_setInn 42 = .ok (.goto 4, 3) := by decide +kernel
theorem dX10_setInn_45 : decode cX10_setInn 45 = .ok (.iconst 0, 1) := by decide +kernel
theorem dX10_setInn_46 : decode cX10_setInn 46 = .ok (.iastore, 1) := by decide +kernel
theorem dX10_setInn_47 : decode cX10_setInn 47 = .ok (.iconst 0, 1) := by decide +kernel
theorem dX10_setInn_48 : decode cX10_setInn 48 = .ok (.istore_n 3, 1) := by decide +kernel
theorem dX10_setInn_49 : decode cX10_setInn 49 = .ok (.iload_n 3, 1) := by decide +kernel
theorem dX10_setInn_50 : decode cX10_setInn 50 = .ok (.bipush 16, 2) := by decide +kernel
theorem dX10_setInn_52 : decode cX10_setInn 52 = .ok (.if_icmp .ge 24, 3) := by decide +kernel
theorem dX10_setInn_55 : decode cX10_setInn 55 = .ok (.aload_n 0, 1) := by decide +kernel
theorem dX10_setInn_56 : decode cX10_setInn 56 = .ok (.getfield 7, 3) := by decide +kernel
theorem dX10_setInn_59 : decode cX10_setInn 59 = .ok (.bipush 32, 2) := by decide +kernel
theorem dX10_setInn_61 : decode cX10_setInn 61 = .ok (.bipush 16, 2) := by decide +kernel
theorem dX10_setInn_63 : decode cX10_setInn 63 = .ok (.iload_n 1, 1) := by decide +kernel
theorem dX10_setInn_64 : decode cX10_setInn 64 = .ok (.imul, 1) := by decide +kernel
theorem dX10_setInn_65 : decode cX10_setInn 65 = .ok (.iadd, 1) := by decide +kernel
theorem dX10_setInn_66 : decode cX10_setInn 66 = .ok (.iload_n 3, 1) := by decide +kernel
theorem dX10_setInn_67 : decode cX10_setInn 67 = .ok (.iadd, 1) := by decide +kernel
theorem dX10_setInn_68 : decode cX10_setInn 68 = .ok (.iconst 0, 1) := by decide +kernel
theorem dX10_setInn_69 : decode cX10_setInn 69 = .ok (.iastore, 1) := by decide +kernel
theorem dX10_setInn_70 : decode cX10_setInn 70 = .ok (.iinc 3 1, 3) := by decide +kernel
theorem dX10_setInn_73 : decode cX10_setInn 73 = .ok (.goto (-24), 3) := by decide +kernel
theorem dX10_setInn_76 : decode cX10_setInn 76 = .ok (.aload_n 0, 1) := by decide +kernel
theorem dX10_setInn_77 : decode cX10_setInn 77 = .ok (.invokevirtual 52, 3) := by decide +kernel
theorem dX10_setInn_80 : decode cX10_setInn 80 = .ok (.ireturn, 1) := by decide +kernel
set_option maxRecDepth 100000 in
set_option maxHeartbeats 4000000 in
theorem c_X10_setInn (l : Launch) (D : va_G) (cas : Nat → ClassId) (ad : Nat → Nat) (hi : zInj ad) {v1 : Int} {v2 : Int}  {r : Int} {M M' : Mem} (hf : f_X10_setInn v1 v2 M = some (r, M')) : zMi l D cas ad yX10_setInn cX10_setInn 4 (some .int) 2 44 [.ref (ad 215), .int (zI v1), .int (zI v2)] M r M' := by
  refine zbody (by decide) (Nat.le_of_ble_eq_true rfl) hi ?_
  intro p e s m args below meth c X hr hk0
  have X : zX p s m args c cX10_setInn "ShardTrailsModel" 4 D cas ad (zA ad) := X
  have hB49 : ∀ (n : Nat) (v1 v3 : Int) (M : Mem), f_X10_setInn_b49 n v1 v3 M = some (r, M') → WW p l e (zrm 2 44) s m args below meth c D cas ad (zA ad) 4 0 0 (MQ below (zQi D cas ad r M') args s 0 0 (zA ad)) 49 [(0, .ref (ad 215)), (1, .int (zI v1)), (3, .int (zI v3))] [] M := by
    intro n
    induction n with
    | zero => intro v1 v3 M hf; exact absurd hf (by unfold f_X10_setInn_b49; simp)
    | succ n ih =>
      intro v1 v3 M hf
      unfold f_X10_setInn_b49 at hf
      refine R_iload_n X 2 dX10_setInn_49 rfl rfl ?_
      refine R_bipush X dX10_setInn_50 (by decide +kernel) ?_
      obtain ⟨hq18, hf⟩ := zgrd hf
      refine R_icmp_ge X 76 ⟨hq18, (by decide)⟩ dX10_setInn_52 (by decide) (fun c24 => ?_) (fun c24 => ?_)
      · have hf := zthen hf c24
        refine R_aload_n X 0 dX10_setInn_76 rfl rfl ?_
        obtain ⟨r19, M20, hc21, hf⟩ := zbnd_some hf
        refine R_callVi X (av := []) (rest := []) (c_X10_inns l D cas ad hi hc21) zy_X10_inns lc_215 rfl rfl wm_X10_52 rfl rfl ⟨Nat.le_of_ble_eq_true rfl, Nat.le_of_ble_eq_true rfl⟩ ⟨Nat.le_refl _, Nat.le_refl _⟩ (Nat.le_of_ble_eq_true rfl) dX10_setInn_77 ?_
        exact R_iret X hr hk0 dX10_setInn_80 hf
      · have hf := zelse hf c24
        refine R_aload_n X 0 dX10_setInn_55 rfl rfl ?_
        refine R_getR X (j := 0) 1 216 lc_215 rfl inX10 (by decide) rfl rfl (by decide) rfl rfl wf_X10_7 dX10_setInn_56 ?_
        refine R_bipush X dX10_setInn_59 (by decide +kernel) ?_
        refine R_bipush X dX10_setInn_61 (by decide +kernel) ?_
        refine R_iload_n X 1 dX10_setInn_63 rfl rfl ?_
        refine R_imul X dX10_setInn_64 ?_
        refine R_iadd X dX10_setInn_65 ?_
        refine R_iload_n X 2 dX10_setInn_66 rfl rfl ?_
        refine R_iadd X dX10_setInn_67 ?_
        refine R_iconst X dX10_setInn_68 ?_
        obtain ⟨hq22, hf⟩ := zgrd hf
        obtain ⟨M23, eM23, hf⟩ := zlt_some hf
        refine R_iast X lc_216 hq22 dX10_setInn_69 ?_
        refine R_mem eM23 ?_
        refine R_iinc X (lv' := [(3, .int (zI (v3 + 1))), (0, .ref (ad 215)), (1, .int (zI v1))]) 2 dX10_setInn_70 rfl (by decide) rfl ?_
        refine R_goto X 49 dX10_setInn_73 (by decide) ?_
        exact R_sub [1, 2, 0] rfl (ih v1 (v3 + 1) M23 hf)
  have hB46 : ∀ (v1 t3 t2 : Int) (M : Mem), f_X10_setInn_b46 v1 t3 t2 M = some (r, M') → WW p l e (zrm 2 44) s m args below meth c D cas ad (zA ad) 4 0 0 (MQ below (zQi D cas ad r M') args s 0 0 (zA ad)) 46 [(0, .ref (ad 215)), (1, .int (zI v1))] [.int (zI t3), .int (zI t2), .ref (ad 216)] M := by
    intro v1 t3 t2 M hf
    unfold f_X10_setInn_b46 at hf
    obtain ⟨hq16, hf⟩ := zgrd hf
    obtain ⟨M17, eM17, hf⟩ := zlt_some hf
    refine R_iast X lc_216 hq16 dX10_setInn_46 ?_
    refine R_mem eM17 ?_
    refine R_iconst X dX10_setInn_47 ?_
    refine R_istore_n X (lv' := [(3, .int (zI 0)), (0, .ref (ad 215)), (1, .int (zI v1))]) dX10_setInn_48 rfl (by decide) rfl ?_
    exact R_sub [1, 2, 0] rfl (hB49 100000 v1 0 M17 hf)
  unfold f_X10_setInn at hf
  refine (?_ : WW p l e (zrm 2 44) s m args below meth c D cas ad (zA ad) 4 0 0 (MQ below (zQi D cas ad r M') args s 0 0 (zA ad)) 0 [(0, .ref (ad 215)), (1, .int (zI v1)), (2, .int (zI v2))] [] M)
  refine R_aload_n X 0 dX10_setInn_0 rfl rfl ?_
  refine R_iload_n X 1 dX10_setInn_1 rfl rfl ?_
  obtain ⟨r1, M2, hc3, hf⟩ := zbnd_some hf
  refine R_callVi X (av := [.int (zI v1)]) (rest := []) (c_X10_isPasture l D cas ad hi hc3) zy_X10_isPasture lc_215 rfl rfl wm_X10_42 rfl rfl ⟨Nat.le_of_ble_eq_true rfl, Nat.le_of_ble_eq_true rfl⟩ ⟨Nat.le_refl _, Nat.le_refl _⟩ (Nat.le_of_ble_eq_true rfl) dX10_setInn_2 ?_
  obtain ⟨hq4, hf⟩ := zgrd hf
  refine R_if_ne X 10 hq4 dX10_setInn_5 (by decide) (fun c15 => ?_) (fun c15 => ?_)
  · have hf := zelse hf c15
    refine R_aload_n X 0 dX10_setInn_10 rfl rfl ?_
    refine R_iload_n X 1 dX10_setInn_11 rfl rfl ?_
    obtain ⟨r5, M6, hc7, hf⟩ := zbnd_some hf
    refine R_callVi X (av := [.int (zI v1)]) (rest := []) (c_X10_hasInn l D cas ad hi hc7) zy_X10_hasInn lc_215 rfl rfl wm_X10_38 rfl rfl ⟨Nat.le_of_ble_eq_true rfl, Nat.le_of_ble_eq_true rfl⟩ ⟨Nat.le_refl _, Nat.le_refl _⟩ (Nat.le_of_ble_eq_true rfl) dX10_setInn_12 ?_
    refine R_iload_n X 2 dX10_setInn_15 rfl rfl ?_
    obtain ⟨hq8, hf⟩ := zgrd hf
    obtain ⟨hq9, hf⟩ := zgrd hf
    refine R_icmp_ne X 22 ⟨hq8, hq9⟩ dX10_setInn_16 (by decide) (fun c14 => ?_) (fun c14 => ?_)
    · have hf := zelse hf c14
      refine R_aload_n X 0 dX10_setInn_22 rfl rfl ?_
      obtain ⟨r10, M11, hc12, hf⟩ := zbnd_some hf
      refine R_callVv X (av := []) (rest := []) (c_X10_record l D cas ad hi hc12) zy_X10_record lc_215 rfl rfl wm_X10_31 rfl rfl ⟨Nat.le_of_ble_eq_true rfl, Nat.le_of_ble_eq_true rfl⟩ ⟨Nat.le_refl _, Nat.le_refl _⟩ (Nat.le_of_ble_eq_true rfl) dX10_setInn_23 ?_
      refine R_aload_n X 0 dX10_setInn_26 rfl rfl ?_
      refine R_getR X (j := 0) 1 216 lc_215 rfl inX10 (by decide) rfl rfl (by decide) rfl rfl wf_X10_7 dX10_setInn_27 ?_
      refine R_iconst X dX10_setInn_30 ?_
      refine R_iconst X dX10_setInn_31 ?_
      refine R_iload_n X 1 dX10_setInn_32 rfl rfl ?_
      refine R_imul X dX10_setInn_33 ?_
      refine R_iadd X dX10_setInn_34 ?_
      refine R_iconst X dX10_setInn_35 ?_
      refine R_iadd X dX10_setInn_36 ?_
      refine R_iload_n X 2 dX10_setInn_37 rfl rfl ?_
      refine R_if_eq X 45 hq9 dX10_setInn_38 (by decide) (fun c13 => ?_) (fun c13 => ?_)
      · have hf := zthen hf c13
        refine R_iconst X dX10_setInn_45 ?_
        exact R_sub [0, 1] rfl (hB46 v1 0 ((0 + (4 * v1)) + 2) M11 hf)
      · have hf := zelse hf c13
        refine R_iconst X dX10_setInn_41 ?_
        refine R_goto X 46 dX10_setInn_42 (by decide) ?_
        exact R_sub [0, 1] rfl (hB46 v1 1 ((0 + (4 * v1)) + 2) M11 hf)
    · have hf := zthen hf c14
      refine R_bipush X dX10_setInn_19 (by decide +kernel) ?_
      exact R_iret X hr hk0 dX10_setInn_21 hf
  · have hf := zthen hf c15
    refine R_iconst X dX10_setInn_8 ?_
    exact R_iret X hr hk0 dX10_setInn_9 hf
theorem dX10_setRoom_0 : decode cX10_setRoom 0 = .ok (.aload_n 0, 1) := by decide +kernel
theorem dX10_setRoom_1 : decode cX10_setRoom 1 = .ok (.iload_n 1, 1) := by decide +kernel
theorem dX10_setRoom_2 : decode cX10_setRoom 2 = .ok (.invokevirtual 42, 3) := by decide +kernel
theorem dX10_setRoom_5 : decode cX10_setRoom 5 = .ok (.ifCond .ne 5, 3) := by decide +kernel
theorem dX10_setRoom_8 : decode cX10_setRoom 8 = .ok (.iconst (-1), 1) := by decide +kernel
theorem dX10_setRoom_9 : decode cX10_setRoom 9 = .ok (.ireturn, 1) := by decide +kernel
theorem dX10_setRoom_10 : decode cX10_setRoom 10 = .ok (.iload_n 2, 1) := by decide +kernel
theorem dX10_setRoom_11 : decode cX10_setRoom 11 = .ok (.iconst 1, 1) := by decide +kernel
theorem dX10_setRoom_12 : decode cX10_setRoom 12 = .ok (.bipush 16, 2) := by decide +kernel
theorem dX10_setRoom_14 : decode cX10_setRoom 14 = .ok (.invokestatic 34, 3) := by decide +kernel
theorem dX10_setRoom_17 : decode cX10_setRoom 17 = .ok (.ifCond .ne 6, 3) := by decide +kernel
theorem dX10_setRoom_20 : decode cX10_setRoom 20 = .ok (.bipush (-2), 2) := by decide +kernel
theorem dX10_setRoom_22 : decode cX10_setRoom 22 = .ok (.ireturn, 1) := by decide +kernel
theorem dX10_setRoom_23 : decode cX10_setRoom 23 = .ok (.aload_n 0, 1) := by decide +kernel
theorem dX10_setRoom_24 : decode cX10_setRoom 24 = .ok (.iload_n 1, 1) := by decide +kernel
theorem dX10_setRoom_25 : decode cX10_setRoom 25 = .ok (.invokevirtual 45, 3) := by decide +kernel
theorem dX10_setRoom_28 : decode cX10_setRoom 28 = .ok (.iload_n 2, 1) := by decide +kernel
theorem dX10_setRoom_29 : decode cX10_setRoom 29 = .ok (.if_icmp .le 6, 3) := by decide +kernel
theorem dX10_setRoom_32 : decode cX10_setRoom 32 = .ok (.bipush (-4), 2) := by decide +kernel
theorem dX10_setRoom_34 : decode cX10_setRoom 34 = .ok (.ireturn, 1) := by decide +kernel
theorem dX10_setRoom_35 : decode cX10_setRoom 35 = .ok (.aload_n 0, 1) := by decide +kernel
theorem dX10_setRoom_36 : decode cX10_setRoom 36 = .ok (.iload_n 1, 1) := by decide +kernel
theorem dX10_setRoom_37 : decode cX10_setRoom 37 = .ok (.invokevirtual 49, 3) := by decide +kernel
theorem dX10_setRoom_40 : decode cX10_setRoom 40 = .ok (.istore_n 3, 1) := by decide +kernel
theorem dX10_setRoom_41 : decode cX10_setRoom 41 = .ok (.iload_n 3, 1) := by decide +kernel
theorem dX10_setRoom_42 : decode cX10_setRoom 42 = .ok (.iload_n 2, 1) := by decide +kernel
theorem dX10_setRoom_43 : decode cX10_setRoom 43 = .ok (.if_icmp .ne 6, 3) := by decide +kernel
theorem dX10_setRoom_46 : decode cX10_setRoom 46 = .ok (.bipush (-5), 2) := by decide +kernel
theorem dX10_setRoom_48 : decode cX10_setRoom 48 = .ok (.ireturn, 1) := by decide +kernel
theorem dX10_setRoom_49 : decode cX10_setRoom 49 = .ok (.aload_n 0, 1) := by decide +kernel
theorem dX10_setRoom_50 : decode cX10_setRoom 50 = .ok (.invokevirtual 31, 3) := by decide +kernel
theorem dX10_setRoom_53 : decode cX10_setRoom 53 = .ok (.aload_n 0, 1) := by decide +kernel
theorem dX10_setRoom_54 : decode cX10_setRoom 54 = .ok (.getfield 7, 3) := by decide +kernel
theorem dX10_setRoom_57 : decode cX10_setRoom 57 = .ok (.iconst 0, 1) := by decide +kernel
theorem dX10_setRoom_58 : decode cX10_setRoom 58 = .ok (.iconst 4, 1) := by decide +kernel
theorem dX10_setRoom_59 : decode cX10_setRoom 59 = .ok (.iload_n 1, 1) := by decide +kernel
theorem dX10_setRoom_60 : decode cX10_setRoom 60 = .ok (.imul, 1) := by decide +kernel
theorem dX10_setRoom_61 : decode cX10_setRoom 61 = .ok (.iadd, 1) := by decide +kernel
theorem dX10_setRoom_62 : decode cX10_setRoom 62 = .ok (.iconst 1, 1) := by decide +kernel
theorem dX10_setRoom_63 : decode cX10_setRoom 63 = .ok (.iadd, 1) := by decide +kernel
theorem dX10_setRoom_64 : decode cX10_setRoom 64 = .ok (.iload_n 2, 1) := by decide +kernel
theorem dX10_setRoom_65 : decode cX10_setRoom 65 = .ok (.iastore, 1) := by decide +kernel
theorem dX10_setRoom_66 : decode cX10_setRoom 66 = .ok (.iload_n 3, 1) := by decide +kernel
theorem dX10_setRoom_67 : decode cX10_setRoom 67 = .ok (.ireturn, 1) := by decide +kernel
set_option maxRecDepth 100000 in
set_option maxHeartbeats 4000000 in
theorem c_X10_setRoom (l : Launch) (D : va_G) (cas : Nat → ClassId) (ad : Nat → Nat) (hi : zInj ad) {v1 : Int} {v2 : Int}  {r : Int} {M M' : Mem} (hf : f_X10_setRoom v1 v2 M = some (r, M')) : zMi l D cas ad yX10_setRoom cX10_setRoom 4 (some .int) 2 44 [.ref (ad 215), .int (zI v1), .int (zI v2)] M r M' := by
  refine zbody (by decide) (Nat.le_of_ble_eq_true rfl) hi ?_
  intro p e s m args below meth c X hr hk0
  have X : zX p s m args c cX10_setRoom "ShardTrailsModel" 4 D cas ad (zA ad) := X
  unfold f_X10_setRoom at hf
  refine (?_ : WW p l e (zrm 2 44) s m args below meth c D cas ad (zA ad) 4 0 0 (MQ below (zQi D cas ad r M') args s 0 0 (zA ad)) 0 [(0, .ref (ad 215)), (1, .int (zI v1)), (2, .int (zI v2))] [] M)
  refine R_aload_n X 0 dX10_setRoom_0 rfl rfl ?_
  refine R_iload_n X 1 dX10_setRoom_1 rfl rfl ?_
  obtain ⟨r1, M2, hc3, hf⟩ := zbnd_some hf
  refine R_callVi X (av := [.int (zI v1)]) (rest := []) (c_X10_isPasture l D cas ad hi hc3) zy_X10_isPasture lc_215 rfl rfl wm_X10_42 rfl rfl ⟨Nat.le_of_ble_eq_true rfl, Nat.le_of_ble_eq_true rfl⟩ ⟨Nat.le_refl _, Nat.le_refl _⟩ (Nat.le_of_ble_eq_true rfl) dX10_setRoom_2 ?_
  obtain ⟨hq4, hf⟩ := zgrd hf
  refine R_if_ne X 10 hq4 dX10_setRoom_5 (by decide) (fun c26 => ?_) (fun c26 => ?_)
  · have hf := zelse hf c26
    refine R_iload_n X 2 dX10_setRoom_10 rfl rfl ?_
    refine R_iconst X dX10_setRoom_11 ?_
    refine R_bipush X dX10_setRoom_12 (by decide +kernel) ?_
    obtain ⟨r5, M6, hc7, hf⟩ := zbnd_some hf
    refine R_callSi X (av := [.int (zI v2), .int (zI 1), .int (zI 16)]) (rest := []) (c_X10_in l D cas ad hi hc7) zy_X10_in wm_X10_34 rfl rfl ⟨Nat.le_of_ble_eq_true rfl, Nat.le_of_ble_eq_true rfl⟩ ⟨Nat.le_refl _, Nat.le_refl _⟩ (Nat.le_of_ble_eq_true rfl) dX10_setRoom_14 ?_
    obtain ⟨hq8, hf⟩ := zgrd hf
    refine R_if_ne X 23 hq8 dX10_setRoom_17 (by decide) (fun c25 => ?_) (fun c25 => ?_)
    · have hf := zelse hf c25
      refine R_aload_n X 0 dX10_setRoom_23 rfl rfl ?_
      refine R_iload_n X 1 dX10_setRoom_24 rfl rfl ?_
      obtain ⟨r9, M10, hc11, hf⟩ := zbnd_some hf
      refine R_callVi X (av := [.int (zI v1)]) (rest := []) (c_X10_shardsIn l D cas ad hi hc11) zy_X10_shardsIn lc_215 rfl rfl wm_X10_45 rfl rfl ⟨Nat.le_of_ble_eq_true rfl, Nat.le_of_ble_eq_true rfl⟩ ⟨Nat.le_refl _, Nat.le_refl _⟩ (Nat.le_of_ble_eq_true rfl) dX10_setRoom_25 ?_
      refine R_iload_n X 2 dX10_setRoom_28 rfl rfl ?_
      obtain ⟨hq12, hf⟩ := zgrd hf
      obtain ⟨hq13, hf⟩ := zgrd hf
      refine R_icmp_le X 35 ⟨hq12, hq13⟩ dX10_setRoom_29 (by decide) (fun c24 => ?_) (fun c24 => ?_)
      · have hf := zthen hf c24
        refine R_aload_n X 0 dX10_setRoom_35 rfl rfl ?_
        refine R_iload_n X 1 dX10_setRoom_36 rfl rfl ?_
        obtain ⟨r14, M15, hc16, hf⟩ := zbnd_some hf
        refine R_callVi X (av := [.int (zI v1)]) (rest := []) (c_X10_roomOf l D cas ad hi hc16) zy_X10_roomOf lc_215 rfl rfl wm_X10_49 rfl rfl ⟨Nat.le_of_ble_eq_true rfl, Nat.le_of_ble_eq_true rfl⟩ ⟨Nat.le_refl _, Nat.le_refl _⟩ (Nat.le_of_ble_eq_true rfl) dX10_setRoom_37 ?_
        refine R_istore_n X (lv' := [(3, .int (zI r14)), (0, .ref (ad 215)), (1, .int (zI v1)), (2, .int (zI v2))]) dX10_setRoom_40 rfl (by decide) rfl ?_
        refine R_iload_n X 0 dX10_setRoom_41 rfl rfl ?_
        refine R_iload_n X 3 dX10_setRoom_42 rfl rfl ?_
        obtain ⟨hq17, hf⟩ := zgrd hf
        refine R_icmp_ne X 49 ⟨hq17, hq13⟩ dX10_setRoom_43 (by decide) (fun c23 => ?_) (fun c23 => ?_)
        · have hf := zelse hf c23
          refine R_aload_n X 1 dX10_setRoom_49 rfl rfl ?_
          obtain ⟨r18, M19, hc20, hf⟩ := zbnd_some hf
          refine R_callVv X (av := []) (rest := []) (c_X10_record l D cas ad hi hc20) zy_X10_record lc_215 rfl rfl wm_X10_31 rfl rfl ⟨Nat.le_of_ble_eq_true rfl, Nat.le_of_ble_eq_true rfl⟩ ⟨Nat.le_refl _, Nat.le_refl _⟩ (Nat.le_of_ble_eq_true rfl) dX10_setRoom_50 ?_
          refine R_aload_n X 1 dX10_setRoom_53 rfl rfl ?_
          refine R_getR X (j := 0) 1 216 lc_215 rfl inX10 (by decide) rfl rfl (by decide) rfl rfl wf_X10_7 dX10_setRoom_54 ?_
          refine R_iconst X dX10_setRoom_57 ?_
          refine R_iconst X dX10_setRoom_58 ?_
          refine R_iload_n X 2 dX10_setRoom_59 rfl rfl ?_
          refine R_imul X dX10_setRoom_60 ?_
          refine R_iadd X dX10_setRoom_61 ?_
          refine R_iconst X dX10_setRoom_62 ?_
          refine R_iadd X dX10_setRoom_63 ?_
          refine R_iload_n X 3 dX10_setRoom_64 rfl rfl ?_
          obtain ⟨hq21, hf⟩ := zgrd hf
          obtain ⟨M22, eM22, hf⟩ := zlt_some hf
          refine R_iast X lc_216 hq21 dX10_setRoom_65 ?_
          refine R_mem eM22 ?_
          refine R_iload_n X 0 dX10_setRoom_66 rfl rfl ?_
          exact R_iret X hr hk0 dX10_setRoom_67 hf
        · have hf := zthen hf c23
          refine R_bipush X dX10_setRoom_46 (by decide +kernel) ?_
          exact R_iret X hr hk0 dX10_setRoom_48 hf
      · have hf := zelse hf c24
        refine R_bipush X dX10_setRoom_32 (by decide +kernel) ?_
        exact R_iret X hr hk0 dX10_setRoom_34 hf
    · have hf := zthen hf c25
      refine R_bipush X dX10_setRoom_20 (by decide +kernel) ?_
      exact R_iret X hr hk0 dX10_setRoom_22 hf
  · have hf := zthen hf c26
    refine R_iconst X dX10_setRoom_8 ?_
    exact R_iret X hr hk0 dX10_setRoom_9 hf
theorem dX10_setSeason_0 : decode cX10_setSeason 0 = .ok (.iload_n 1, 1) := by decide +kernel
theorem dX10_setSeason_1 : decode cX10_setSeason 1 = .ok (.iconst 0, 1) := by decide +kernel
theorem dX10_setSeason_2 : decode cX10_setSeason 2 = .ok (.iconst 3, 1) := by decide +kernel
theorem dX10_setSeason_3 : decode cX10_setSeason 3 = .ok (.invokestatic 34, 3) := by decide +kernel
theorem dX10_setSeason_6 : decode cX10_setSeason 6 = .ok (.ifCond .eq 26, 3) := by decide +kernel
theorem dX10_setSeason_9 : decode cX10_setSeason 9 = .ok (.iload_n 2, 1) := by decide +kernel
theorem dX10_setSeason_10 : decode cX10_setSeason 10 = .ok (.iconst 0, 1) := by decide +kernel
theorem dX10_setSeason_11 : decode cX10_setSeason 11 = .ok (.bipush 90, 2) := by decide +kernel
theorem dX10_setSeason_13 : decode cX10_setSeason 13 = .ok (.invokestatic 34, 3) := by decide +kernel
theorem dX10_setSeason_16 : decode cX10_setSeason 16 = .ok (.ifCond .eq 16, 3) := by decide +kernel
theorem dX10_setSeason_19 : decode cX10_setSeason 19 = .ok (.aload_n 0, 1) := by decide +kernel
theorem dX10_setSeason_20 : decode cX10_setSeason 20 = .ok (.sipush 852, 3) := by decide +kernel
theorem dX10_setSeason_23 : decode cX10_setSeason 23 = .ok (.iload_n 1, 1) := by decide +kernel
theorem dX10_setSeason_24 : decode cX10_setSeason 24 = .ok (.iadd, 1) := by decide +kernel
theorem dX10_setSeason_25 : decode cX10_setSeason 25 = .ok (.iload_n 2, 1) := by decide +kernel
theorem dX10_setSeason_26 : decode cX10_setSeason 26 = .ok (.invokevirtual 56, 3) := by decide +kernel
theorem dX10_setSeason_29 : decode cX10_setSeason 29 = .ok (.goto 5, 3) := by decide +kernel
theorem dX10_setSeason_32 : decode cX10_setSeason 32 = .ok (.bipush (-2), 2) := by decide +kernel
theorem dX10_setSeason_34 : decode cX10_setSeason 34 = .ok (.ireturn, 1) := by decide +kernel
set_option maxRecDepth 100000 in
set_option maxHeartbeats 4000000 in
theorem c_X10_setSeason (l : Launch) (D : va_G) (cas : Nat → ClassId) (ad : Nat → Nat) (hi : zInj ad) {v1 : Int} {v2 : Int}  {r : Int} {M M' : Mem} (hf : f_X10_setSeason v1 v2 M = some (r, M')) : zMi l D cas ad yX10_setSeason cX10_setSeason 3 (some .int) 3 67 [.ref (ad 215), .int (zI v1), .int (zI v2)] M r M' := by
  refine zbody (by decide) (Nat.le_of_ble_eq_true rfl) hi ?_
  intro p e s m args below meth c X hr hk0
  have X : zX p s m args c cX10_setSeason "ShardTrailsModel" 3 D cas ad (zA ad) := X
  have hB34 : ∀ (t1 : Int) (M : Mem), f_X10_setSeason_b34 t1 M = some (r, M') → WW p l e (zrm 3 67) s m args below meth c D cas ad (zA ad) 3 0 0 (MQ below (zQi D cas ad r M') args s 0 0 (zA ad)) 34 [] [.int (zI t1)] M := by
    intro t1 M hf
    unfold f_X10_setSeason_b34 at hf
    exact R_iret X hr hk0 dX10_setSeason_34 hf
  have hB32 : ∀ (M : Mem), f_X10_setSeason_b32 M = some (r, M') → WW p l e (zrm 3 67) s m args below meth c D cas ad (zA ad) 3 0 0 (MQ below (zQi D cas ad r M') args s 0 0 (zA ad)) 32 [] [] M := by
    intro M hf
    unfold f_X10_setSeason_b32 at hf
    refine R_bipush X dX10_setSeason_32 (by decide +kernel) ?_
    exact R_sub [] rfl (hB34 (-2) M hf)
  unfold f_X10_setSeason at hf
  refine (?_ : WW p l e (zrm 3 67) s m args below meth c D cas ad (zA ad) 3 0 0 (MQ below (zQi D cas ad r M') args s 0 0 (zA ad)) 0 [(0, .ref (ad 215)), (1, .int (zI v1)), (2, .int (zI v2))] [] M)
  refine R_iload_n X 1 dX10_setSeason_0 rfl rfl ?_
  refine R_iconst X dX10_setSeason_1 ?_
  refine R_iconst X dX10_setSeason_2 ?_
  obtain ⟨r1, M2, hc3, hf⟩ := zbnd_some hf
  refine R_callSi X (av := [.int (zI v1), .int (zI 0), .int (zI 3)]) (rest := []) (c_X10_in l D cas ad hi hc3) zy_X10_in wm_X10_34 rfl rfl ⟨Nat.le_of_ble_eq_true rfl, Nat.le_of_ble_eq_true rfl⟩ ⟨Nat.le_refl _, Nat.le_refl _⟩ (Nat.le_of_ble_eq_true rfl) dX10_setSeason_3 ?_
  obtain ⟨hq4, hf⟩ := zgrd hf
  refine R_if_eq X 32 hq4 dX10_setSeason_6 (by decide) (fun c13 => ?_) (fun c13 => ?_)
  · have hf := zthen hf c13
    exact R_sub [] rfl (hB32 M2 hf)
  · have hf := zelse hf c13
    refine R_iload_n X 2 dX10_setSeason_9 rfl rfl ?_
    refine R_iconst X dX10_setSeason_10 ?_
    refine R_bipush X dX10_setSeason_11 (by decide +kernel) ?_
    obtain ⟨r5, M6, hc7, hf⟩ := zbnd_some hf
    refine R_callSi X (av := [.int (zI v2), .int (zI 0), .int (zI 90)]) (rest := []) (c_X10_in l D cas ad hi hc7) zy_X10_in wm_X10_34 rfl rfl ⟨Nat.le_of_ble_eq_true rfl, Nat.le_of_ble_eq_true rfl⟩ ⟨Nat.le_refl _, Nat.le_refl _⟩ (Nat.le_of_ble_eq_true rfl) dX10_setSeason_13 ?_
    obtain ⟨hq8, hf⟩ := zgrd hf
    refine R_if_eq X 32 hq8 dX10_setSeason_16 (by decide) (fun c12 => ?_) (fun c12 => ?_)
    · have hf := zthen hf c12
      exact R_sub [] rfl (hB32 M6 hf)
    · have hf := zelse hf c12
      refine R_aload_n X 0 dX10_setSeason_19 rfl rfl ?_
      refine R_sipush X dX10_setSeason_20 (by decide +kernel) ?_
      refine R_iload_n X 1 dX10_setSeason_23 rfl rfl ?_
      refine R_iadd X dX10_setSeason_24 ?_
      refine R_iload_n X 2 dX10_setSeason_25 rfl rfl ?_
      obtain ⟨r9, M10, hc11, hf⟩ := zbnd_some hf
      refine R_callVi X (av := [.int (zI (852 + v1)), .int (zI v2)]) (rest := []) (c_X10_put l D cas ad hi hc11) zy_X10_put lc_215 rfl rfl wm_X10_56 rfl rfl ⟨Nat.le_of_ble_eq_true rfl, Nat.le_of_ble_eq_true rfl⟩ ⟨Nat.le_refl _, Nat.le_refl _⟩ (Nat.le_of_ble_eq_true rfl) dX10_setSeason_26 ?_
      refine R_goto X 34 dX10_setSeason_29 (by decide) ?_
      exact R_sub [] rfl (hB34 r9 M10 hf)
theorem dX10_sumOf_0 : decode cX10_sumOf 0 = .ok (.iconst 0, 1) := by decide +kernel
theorem dX10_sumOf_1 : decode cX10_sumOf 1 = .ok (.istore_n 2, 1) := by decide +kernel
theorem dX10_sumOf_2 : decode cX10_sumOf 2 = .ok (.iconst 0, 1) := by decide +kernel
theorem dX10_sumOf_3 : decode cX10_sumOf 3 = .ok (.istore_n 3, 1) := by decide +kernel
theorem dX10_sumOf_4 : decode cX10_sumOf 4 = .ok (.iload_n 3, 1) := by decide +kernel
theorem dX10_sumOf_5 : decode cX10_sumOf 5 = .ok (.bipush 16, 2) := by decide +kernel
theorem dX10_sumOf_7 : decode cX10_sumOf 7 = .ok (.if_icmp .ge 27, 3) := by decide +kernel
theorem dX10_sumOf_10 : decode cX10_sumOf 10 = .ok (.iload_n 2, 1) := by decide +kernel
theorem dX10_sumOf_11 : decode cX10_sumOf 11 = .ok (.aload_n 0, 1) := by decide +kernel
theorem dX10_sumOf_12 : decode cX10_sumOf 12 = .ok (.getfield 7, 3) := by decide +kernel
theorem dX10_sumOf_15 : decode cX10_sumOf 15 = .ok (.sipush 464, 3) := by decide +kernel
theorem dX10_sumOf_18 : decode cX10_sumOf 18 = .ok (.bipush 16, 2) := by decide +kernel
theorem dX10_sumOf_20 : decode cX10_sumOf 20 = .ok (.iload_n 1, 1) := by decide +kernel
theorem dX10_sumOf_21 : decode cX10_sumOf 21 = .ok (.imul, 1) := by decide +kernel
theorem dX10_sumOf_22 : decode cX10_sumOf 22 = .ok (.iadd, 1) := by decide +kernel
theorem dX10_sumOf_23 : decode cX10_sumOf 23 = .ok (.iload_n 3, 1) := by decide +kernel
theorem dX10_sumOf_24 : decode cX10_sumOf 24 = .ok (.iadd, 1) := by decide +kernel
theorem dX10_sumOf_25 : decode cX10_sumOf 25 = .ok (.iaload, 1) := by decide +kernel
theorem dX10_sumOf_26 : decode cX10_sumOf 26 = .ok (.iadd, 1) := by decide +kernel
theorem dX10_sumOf_27 : decode cX10_sumOf 27 = .ok (.istore_n 2, 1) := by decide +kernel
theorem dX10_sumOf_28 : decode cX10_sumOf 28 = .ok (.iinc 3 1, 3) := by decide +kernel
theorem dX10_sumOf_31 : decode cX10_sumOf 31 = .ok (.goto (-27), 3) := by decide +kernel
theorem dX10_sumOf_34 : decode cX10_sumOf 34 = .ok (.iload_n 2, 1) := by decide +kernel
theorem dX10_sumOf_35 : decode cX10_sumOf 35 = .ok (.ireturn, 1) := by decide +kernel
set_option maxRecDepth 100000 in
set_option maxHeartbeats 4000000 in
theorem c_X10_sumOf (l : Launch) (D : va_G) (cas : Nat → ClassId) (ad : Nat → Nat) (hi : zInj ad) {v1 : Int}  {r : Int} {M M' : Mem} (hf : f_X10_sumOf v1 M = some (r, M')) : zMi l D cas ad yX10_sumOf cX10_sumOf 4 (some .int) 0 0 [.ref (ad 215), .int (zI v1)] M r M' := by
  refine zbody (by decide) (Nat.le_of_ble_eq_true rfl) hi ?_
  intro p e s m args below meth c X hr hk0
  have X : zX p s m args c cX10_sumOf "ShardTrailsModel" 4 D cas ad (zA ad) := X
  have hB4 : ∀ (n : Nat) (v1 v2 v3 : Int) (M : Mem), f_X10_sumOf_b4 n v1 v2 v3 M = some (r, M') → WW p l e (zrm 0 0) s m args below meth c D cas ad (zA ad) 4 0 0 (MQ below (zQi D cas ad r M') args s 0 0 (zA ad)) 4 [(0, .ref (ad 215)), (1, .int (zI v1)), (2, .int (zI v2)), (3, .int (zI v3))] [] M := by
    intro n
    induction n with
    | zero => intro v1 v2 v3 M hf; exact absurd hf (by unfold f_X10_sumOf_b4; simp)
    | succ n ih =>
      intro v1 v2 v3 M hf
      unfold f_X10_sumOf_b4 at hf
      refine R_iload_n X 3 dX10_sumOf_4 rfl rfl ?_
      refine R_bipush X dX10_sumOf_5 (by decide +kernel) ?_
      obtain ⟨hq1, hf⟩ := zgrd hf
      refine R_icmp_ge X 34 ⟨hq1, (by decide)⟩ dX10_sumOf_7 (by decide) (fun c4 => ?_) (fun c4 => ?_)
      · have hf := zthen hf c4
        refine R_iload_n X 2 dX10_sumOf_34 rfl rfl ?_
        exact R_iret X hr hk0 dX10_sumOf_35 hf
      · have hf := zelse hf c4
        refine R_iload_n X 2 dX10_sumOf_10 rfl rfl ?_
        refine R_aload_n X 0 dX10_sumOf_11 rfl rfl ?_
        refine R_getR X (j := 0) 1 216 lc_215 rfl inX10 (by decide) rfl rfl (by decide) rfl rfl wf_X10_7 dX10_sumOf_12 ?_
        refine R_sipush X dX10_sumOf_15 (by decide +kernel) ?_
        refine R_bipush X dX10_sumOf_18 (by decide +kernel) ?_
        refine R_iload_n X 1 dX10_sumOf_20 rfl rfl ?_
        refine R_imul X dX10_sumOf_21 ?_
        refine R_iadd X dX10_sumOf_22 ?_
        refine R_iload_n X 3 dX10_sumOf_23 rfl rfl ?_
        refine R_iadd X dX10_sumOf_24 ?_
        obtain ⟨hq2, hf⟩ := zgrd hf
        refine R_iald X lc_216 hq2 dX10_sumOf_25 ?_
        refine R_iadd X dX10_sumOf_26 ?_
        obtain ⟨x3, ex3, hf⟩ := zlt_some hf
        refine R_istore_nX X (lv' := [(2, .int (zI x3)), (0, .ref (ad 215)), (1, .int (zI v1)), (3, .int (zI v3))]) ex3 dX10_sumOf_27 rfl (by decide) rfl ?_
        refine R_iinc X (lv' := [(3, .int (zI (v3 + 1))), (2, .int (zI x3)), (0, .ref (ad 215)), (1, .int (zI v1))]) 3 dX10_sumOf_28 rfl (by decide) rfl ?_
        refine R_goto X 4 dX10_sumOf_31 (by decide) ?_
        exact R_sub [2, 3, 1, 0] rfl (ih v1 x3 (v3 + 1) M hf)
  unfold f_X10_sumOf at hf
  refine (?_ : WW p l e (zrm 0 0) s m args below meth c D cas ad (zA ad) 4 0 0 (MQ below (zQi D cas ad r M') args s 0 0 (zA ad)) 0 [(0, .ref (ad 215)), (1, .int (zI v1))] [] M)
  refine R_iconst X dX10_sumOf_0 ?_
  refine R_istore_n X (lv' := [(2, .int (zI 0)), (0, .ref (ad 215)), (1, .int (zI v1))]) dX10_sumOf_1 rfl (by decide) rfl ?_
  refine R_iconst X dX10_sumOf_2 ?_
  refine R_istore_n X (lv' := [(3, .int (zI 0)), (2, .int (zI 0)), (0, .ref (ad 215)), (1, .int (zI v1))]) dX10_sumOf_3 rfl (by decide) rfl ?_
  exact R_sub [2, 3, 1, 0] rfl (hB4 100000 v1 0 0 M hf)
theorem dX10_tracksOf_0 : decode cX10_tracksOf 0 = .ok (.iconst 0, 1) := by decide +kernel
theorem dX10_tracksOf_1 : decode cX10_tracksOf 1 = .ok (.istore_n 2, 1) := by decide +kernel
theorem dX10_tracksOf_2 : decode cX10_tracksOf 2 = .ok (.iconst 0, 1) := by decide +kernel
theorem dX10_tracksOf_3 : decode cX10_tracksOf 3 = .ok (.istore_n 3, 1) := by decide +kernel
theorem dX10_tracksOf_4 : decode cX10_tracksOf 4 = .ok (.iload_n 3, 1) := by decide +kernel
theorem dX10_tracksOf_5 : decode cX10_tracksOf 5 = .ok (.aload_n 0, 1) := by decide +kernel
theorem dX10_tracksOf_6 : decode cX10_tracksOf 6 = .ok (.getfield 7, 3) := by decide +kernel
theorem dX10_tracksOf_9 : decode cX10_tracksOf 9 = .ok (.sipush 863, 3) := by decide +kernel
theorem dX10_tracksOf_12 : decode cX10_tracksOf 12 = .ok (.iaload, 1) := by decide +kernel
theorem dX10_tracksOf_13 : decode cX10_tracksOf 13 = .ok (.if_icmp .ge 26, 3) := by decide +kernel
theorem dX10_tracksOf_16 : decode cX10_tracksOf 16 = .ok (.iload_n 2, 1) := by decide +kernel
theorem dX10_tracksOf_17 : decode cX10_tracksOf 17 = .ok (.aload_n 0, 1) := by decide +kernel
theorem dX10_tracksOf_18 : decode cX10_tracksOf 18 = .ok (.iload_n 3, 1) := by decide +kernel
theorem dX10_tracksOf_19 : decode cX10_tracksOf 19 = .ok (.iload_n 1, 1) := by decide +kernel
theorem dX10_tracksOf_20 : decode cX10_tracksOf 20 = .ok (.invokevirtual 80, 3) := by decide +kernel
theorem dX10_tracksOf_23 : decode cX10_tracksOf 23 = .ok (.ifCond .eq 7, 3) := by decide +kernel
theorem dX10_tracksOf_26 : decode cX10_tracksOf 26 = .ok (.iconst 1, 1) := by decide +kernel
theorem dX10_tracksOf_27 : decode cX10_tracksOf 27 = .ok (.goto 4, 3) := by decide +kernel
theorem dX10_tracksOf_30 : decode cX10_tracksOf 30 = .ok (.iconst 0, 1) := by decide +kernel
theorem dX10_tracksOf_31 : decode cX10_tracksOf 31 = .ok (.iadd, 1) := by decide +kernel
theorem dX10_tracksOf_32 : decode cX10_tracksOf 32 = .ok (.istore_n 2, 1) := by decide +kernel
theorem dX10_tracksOf_33 : decode cX10_tracksOf 33 = .ok (.iinc 3 1, 3) := by decide +kernel
theorem dX10_tracksOf_36 : decode cX10_tracksOf 36 = .ok (.goto (-32), 3) := by decide +kernel
theorem dX10_tracksOf_39 : decode cX10_tracksOf 39 = .ok (.iload_n 2, 1) := by decide +kernel
theorem dX10_tracksOf_40 : decode cX10_tracksOf 40 = .ok (.ireturn, 1) := by decide +kernel
set_option maxRecDepth 100000 in
set_option maxHeartbeats 4000000 in
theorem c_X10_tracksOf (l : Launch) (D : va_G) (cas : Nat → ClassId) (ad : Nat → Nat) (hi : zInj ad) {v1 : Int}  {r : Int} {M M' : Mem} (hf : f_X10_tracksOf v1 M = some (r, M')) : zMi l D cas ad yX10_tracksOf cX10_tracksOf 4 (some .int) 2 44 [.ref (ad 215), .int (zI v1)] M r M' := by
  refine zbody (by decide) (Nat.le_of_ble_eq_true rfl) hi ?_
  intro p e s m args below meth c X hr hk0
  have X : zX p s m args c cX10_tracksOf "ShardTrailsModel" 4 D cas ad (zA ad) := X
  have hB31 : ∀ (g4 : Int → Int → Int → Mem → Option (Int × Mem)) (hg4 : ∀ (v1 v2 v3 : Int) (M : Mem), g4 v1 v2 v3 M = some (r, M') → WW p l e (zrm 2 44) s m args below meth c D cas ad (zA ad) 4 0 0 (MQ below (zQi D cas ad r M') args s 0 0 (zA ad)) 4 [(0, .ref (ad 215)), (1, .int (zI v1)), (2, .int (zI v2)), (3, .int (zI v3))] [] M) (v1 v3 t2 t1 : Int) (M : Mem), f_X10_tracksOf_b31 g4 v1 v3 t2 t1 M = some (r, M') → WW p l e (zrm 2 44) s m args below meth c D cas ad (zA ad) 4 0 0 (MQ below (zQi D cas ad r M') args s 0 0 (zA ad)) 31 [(0, .ref (ad 215)), (1, .int (zI v1)), (3, .int (zI v3))] [.int (zI t2), .int (zI t1)] M := by
    intro g4 hg4 v1 v3 t2 t1 M hf
    unfold f_X10_tracksOf_b31 at hf
    refine R_iadd X dX10_tracksOf_31 ?_
    obtain ⟨x9, ex9, hf⟩ := zlt_some hf
    refine R_istore_nX X (lv' := [(2, .int (zI x9)), (0, .ref (ad 215)), (1, .int (zI v1)), (3, .int (zI v3))]) ex9 dX10_tracksOf_32 rfl (by decide) rfl ?_
    refine R_iinc X (lv' := [(3, .int (zI (v3 + 1))), (2, .int (zI x9)), (0, .ref (ad 215)), (1, .int (zI v1))]) 3 dX10_tracksOf_33 rfl (by decide) rfl ?_
    refine R_goto X 4 dX10_tracksOf_36 (by decide) ?_
    exact R_sub [2, 3, 1, 0] rfl (hg4 v1 x9 (v3 + 1) M hf)
  have hB4 : ∀ (n : Nat) (v1 v2 v3 : Int) (M : Mem), f_X10_tracksOf_b4 n v1 v2 v3 M = some (r, M') → WW p l e (zrm 2 44) s m args below meth c D cas ad (zA ad) 4 0 0 (MQ below (zQi D cas ad r M') args s 0 0 (zA ad)) 4 [(0, .ref (ad 215)), (1, .int (zI v1)), (2, .int (zI v2)), (3, .int (zI v3))] [] M := by
    intro n
    induction n with
    | zero => intro v1 v2 v3 M hf; exact absurd hf (by unfold f_X10_tracksOf_b4; simp)
    | succ n ih =>
      intro v1 v2 v3 M hf
      unfold f_X10_tracksOf_b4 at hf
      refine R_iload_n X 3 dX10_tracksOf_4 rfl rfl ?_
      refine R_aload_n X 0 dX10_tracksOf_5 rfl rfl ?_
      refine R_getR X (j := 0) 1 216 lc_215 rfl inX10 (by decide) rfl rfl (by decide) rfl rfl wf_X10_7 dX10_tracksOf_6 ?_
      refine R_sipush X dX10_tracksOf_9 (by decide +kernel) ?_
      refine R_iald X lc_216 (by decide) dX10_tracksOf_12 ?_
      obtain ⟨hq1, hf⟩ := zgrd hf
      obtain ⟨hq2, hf⟩ := zgrd hf
      refine R_icmp_ge X 39 ⟨hq1, hq2⟩ dX10_tracksOf_13 (by decide) (fun c8 => ?_) (fun c8 => ?_)
      · have hf := zthen hf c8
        refine R_iload_n X 2 dX10_tracksOf_39 rfl rfl ?_
        exact R_iret X hr hk0 dX10_tracksOf_40 hf
      · have hf := zelse hf c8
        refine R_iload_n X 2 dX10_tracksOf_16 rfl rfl ?_
        refine R_aload_n X 0 dX10_tracksOf_17 rfl rfl ?_
        refine R_iload_n X 3 dX10_tracksOf_18 rfl rfl ?_
        refine R_iload_n X 1 dX10_tracksOf_19 rfl rfl ?_
        obtain ⟨r3, M4, hc5, hf⟩ := zbnd_some hf
        refine R_callVi X (av := [.int (zI v3), .int (zI v1)]) (rest := [.int (zI v2)]) (c_X10_hasTrack l D cas ad hi hc5) zy_X10_hasTrack lc_215 rfl rfl wm_X10_80 rfl rfl ⟨Nat.le_of_ble_eq_true rfl, Nat.le_of_ble_eq_true rfl⟩ ⟨Nat.le_refl _, Nat.le_refl _⟩ (Nat.le_of_ble_eq_true rfl) dX10_tracksOf_20 ?_
        obtain ⟨hq6, hf⟩ := zgrd hf
        refine R_if_eq X 30 hq6 dX10_tracksOf_23 (by decide) (fun c7 => ?_) (fun c7 => ?_)
        · have hf := zthen hf c7
          refine R_iconst X dX10_tracksOf_30 ?_
          exact R_sub [0, 1, 3] rfl (hB31 (f_X10_tracksOf_b4 n) ih v1 v3 0 v2 M4 hf)
        · have hf := zelse hf c7
          refine R_iconst X dX10_tracksOf_26 ?_
          refine R_goto X 31 dX10_tracksOf_27 (by decide) ?_
          exact R_sub [0, 1, 3] rfl (hB31 (f_X10_tracksOf_b4 n) ih v1 v3 1 v2 M4 hf)
  unfold f_X10_tracksOf at hf
  refine (?_ : WW p l e (zrm 2 44) s m args below meth c D cas ad (zA ad) 4 0 0 (MQ below (zQi D cas ad r M') args s 0 0 (zA ad)) 0 [(0, .ref (ad 215)), (1, .int (zI v1))] [] M)
  refine R_iconst X dX10_tracksOf_0 ?_
  refine R_istore_n X (lv' := [(2, .int (zI 0)), (0, .ref (ad 215)), (1, .int (zI v1))]) dX10_tracksOf_1 rfl (by decide) rfl ?_
  refine R_iconst X dX10_tracksOf_2 ?_
  refine R_istore_n X (lv' := [(3, .int (zI 0)), (2, .int (zI 0)), (0, .ref (ad 215)), (1, .int (zI v1))]) dX10_tracksOf_3 rfl (by decide) rfl ?_
  exact R_sub [2, 3, 1, 0] rfl (hB4 100000 v1 0 0 M hf)
theorem dX10_shard_0 : decode cX10_shard 0 = .ok (.iload_n 1, 1) := by decide +kernel
theorem dX10_shard_1 : decode cX10_shard 1 = .ok (.invokestatic 74, 3) := by decide +kernel
theorem dX10_shard_4 : decode cX10_shard 4 = .ok (.ifCond .ne 5, 3) := by decide +kernel
theorem dX10_shard_7 : decode cX10_shard 7 = .ok (.iconst (-1), 1) := by decide +kernel
theorem dX10_shard_8 : decode cX10_shard 8 = .ok (.ireturn, 1) := by decide +kernel
theorem dX10_shard_9 : decode cX10_shard 9 = .ok (.iload_n 2, 1) := by decide +kernel
theorem dX10_shard_10 : decode cX10_shard 10 = .ok (.tableswitch 99 0 6 #[42, 53, 64, 75, 81, 87, 93], 42) := by decide +kernel
theorem dX10_shard_52 : decode cX10_shard 52 = .ok (.aload_n 0, 1) := by decide +kernel
theorem dX10_shard_53 : decode cX10_shard 53 = .ok (.getfield 7, 3) := by decide +kernel
theorem dX10_shard_56 : decode cX10_shard 56 = .ok (.sipush 416, 3) := by decide +kernel
theorem dX10_shard_59 : decode cX10_shard 59 = .ok (.iload_n 1, 1) := by decide +kernel
theorem dX10_shard_60 : decode cX10_shard 60 = .ok (.iadd, 1) := by decide +kernel
theorem dX10_shard_61 : decode cX10_shard 61 = .ok (.iaload, 1) := by decide +kernel
theorem dX10_shard_62 : decode cX10_shard 62 = .ok (.ireturn, 1) := by decide +kernel
theorem dX10_shard_63 : decode cX10_shard 63 = .ok (.aload_n 0, 1) := by decide +kernel
theorem dX10_shard_64 : decode cX10_shard 64 = .ok (.getfield 7, 3) := by decide +kernel
theorem dX10_shard_67 : decode cX10_shard 67 = .ok (.sipush 432, 3) := by decide +kernel
theorem dX10_shard_70 : decode cX10_shard 70 = .ok (.iload_n 1, 1) := by decide +kernel
theorem dX10_shard_71 : decode cX10_shard 71 = .ok (.iadd, 1) := by decide +kernel
theorem dX10_shard_72 : decode cX10_shard 72 = .ok (.iaload, 1) := by decide +kernel
theorem dX10_shard_73 : decode cX10_shard 73 = .ok (.ireturn, 1) := by decide +kernel
theorem dX10_shard_74 : decode cX10_shard 74 = .ok (.aload_n 0, 1) := by decide +kernel
theorem dX10_shard_75 : decode cX10_shard 75 = .ok (.getfield 7, 3) := by decide +kernel
theorem dX10_shard_78 : decode cX10_shard 78 = .ok (.sipush 448, 3) := by decide +kernel
theorem dX10_shard_81 : decode cX10_shard 81 = .ok (.iload_n 1, 1) := by decide +kernel
theorem dX10_shard_82 : decode cX10_shard 82 = .ok (.iadd, 1) := by decide +kernel
theorem dX10_shard_83 : decode cX10_shard 83 = .ok (.iaload, 1) := by decide +kernel
theorem dX10_shard_84 : decode cX10_shard 84 = .ok (.ireturn, 1) := by decide +kernel
theorem dX10_shard_85 : decode cX10_shard 85 = .ok (.aload_n 0, 1) := by decide +kernel
theorem dX10_shard_86 : decode cX10_shard 86 = .ok (.iload_n 1, 1) := by decide +kernel
theorem dX10_shard_87 : decode cX10_shard 87 = .ok (.invokevirtual 193, 3) := by decide +kernel
theorem dX10_shard_90 : decode cX10_shard 90 = .ok (.ireturn, 1) := by decide +kernel
theorem dX10_shard_91 : decode cX10_shard 91 = .ok (.aload_n 0, 1) := by decide +kernel
theorem dX10_shard_92 : decode cX10_shard 92 = .ok (.iload_n 1, 1) := by decide +kernel
theorem dX10_shard_93 : decode cX10_shard 93 = .ok (.invokevirtual 95, 3) := by decide +kernel
theorem dX10_shard_96 : decode cX10_shard 96 = .ok (.ireturn, 1) := by decide +kernel
theorem dX10_shard_97 : decode cX10_shard 97 = .ok (.aload_n 0, 1) := by decide +kernel
theorem dX10_shard_98 : decode cX10_shard 98 = .ok (.iload_n 1, 1) := by decide +kernel
theorem dX10_shard_99 : decode cX10_shard 99 = .ok (.invokevirtual 98, 3) := by decide +kernel
theorem dX10_shard_102 : decode cX10_shard 102 = .ok (.ireturn, 1) := by decide +kernel
theorem dX10_shard_103 : decode cX10_shard 103 = .ok (.aload_n 0, 1) := by decide +kernel
theorem dX10_shard_104 : decode cX10_shard 104 = .ok (.iload_n 1, 1) := by decide +kernel
theorem dX10_shard_105 : decode cX10_shard 105 = .ok (.invokevirtual 196, 3) := by decide +kernel
theorem dX10_shard_108 : decode cX10_shard 108 = .ok (.ireturn, 1) := by decide +kernel
theorem dX10_shard_109 : decode cX10_shard 109 = .ok (.bipush (-2), 2) := by decide +kernel
theorem dX10_shard_111 : decode cX10_shard 111 = .ok (.ireturn, 1) := by decide +kernel
set_option maxRecDepth 100000 in
set_option maxHeartbeats 4000000 in
theorem c_X10_shard (l : Launch) (D : va_G) (cas : Nat → ClassId) (ad : Nat → Nat) (hi : zInj ad) {v1 : Int} {v2 : Int}  {r : Int} {M M' : Mem} (hf : f_X10_shard v1 v2 M = some (r, M')) : zMi l D cas ad yX10_shard cX10_shard 3 (some .int) 3 67 [.ref (ad 215), .int (zI v1), .int (zI v2)] M r M' := by
  refine zbody (by decide) (Nat.le_of_ble_eq_true rfl) hi ?_
  intro p e s m args below meth c X hr hk0
  have X : zX p s m args c cX10_shard "ShardTrailsModel" 3 D cas ad (zA ad) := X
  unfold f_X10_shard at hf
  refine (?_ : WW p l e (zrm 3 67) s m args below meth c D cas ad (zA ad) 3 0 0 (MQ below (zQi D cas ad r M') args s 0 0 (zA ad)) 0 [(0, .ref (ad 215)), (1, .int (zI v1)), (2, .int (zI v2))] [] M)
  refine R_iload_n X 1 dX10_shard_0 rfl rfl ?_
  obtain ⟨r1, M2, hc3, hf⟩ := zbnd_some hf
  refine R_callSi X (av := [.int (zI v1)]) (rest := []) (c_X10_isShard l D cas ad hi hc3) zy_X10_isShard wm_X10_74 rfl rfl ⟨Nat.le_of_ble_eq_true rfl, Nat.le_of_ble_eq_true rfl⟩ ⟨Nat.le_refl _, Nat.le_refl _⟩ (Nat.le_of_ble_eq_true rfl) dX10_shard_1 ?_
  obtain ⟨hq4, hf⟩ := zgrd hf
  refine R_if_ne X 9 hq4 dX10_shard_4 (by decide) (fun c28 => ?_) (fun c28 => ?_)
  · have hf := zelse hf c28
    refine R_iload_n X 2 dX10_shard_9 rfl rfl ?_
    obtain ⟨hq5, hf⟩ := zgrd hf
    by_cases c7 : v2 = 0
    · have hf := zthen hf c7
      refine R_tableIn X (o := 42) 52 c7 dX10_shard_10 (by decide) (by decide) (by decide) (by decide +kernel) (by decide) ?_
      refine R_aload_n X 0 dX10_shard_52 rfl rfl ?_
      refine R_getR X (j := 0) 1 216 lc_215 rfl inX10 (by decide) rfl rfl (by decide) rfl rfl wf_X10_7 dX10_shard_53 ?_
      refine R_sipush X dX10_shard_56 (by decide +kernel) ?_
      refine R_iload_n X 1 dX10_shard_59 rfl rfl ?_
      refine R_iadd X dX10_shard_60 ?_
      obtain ⟨hq6, hf⟩ := zgrd hf
      refine R_iald X lc_216 hq6 dX10_shard_61 ?_
      exact R_iret X hr hk0 dX10_shard_62 hf
    have hf := zelse hf c7
    by_cases c9 : v2 = 1
    · have hf := zthen hf c9
      refine R_tableIn X (o := 53) 63 c9 dX10_shard_10 (by decide) (by decide) (by decide) (by decide +kernel) (by decide) ?_
      refine R_aload_n X 0 dX10_shard_63 rfl rfl ?_
      refine R_getR X (j := 0) 1 216 lc_215 rfl inX10 (by decide) rfl rfl (by decide) rfl rfl wf_X10_7 dX10_shard_64 ?_
      refine R_sipush X dX10_shard_67 (by decide +kernel) ?_
      refine R_iload_n X 1 dX10_shard_70 rfl rfl ?_
      refine R_iadd X dX10_shard_71 ?_
      obtain ⟨hq8, hf⟩ := zgrd hf
      refine R_iald X lc_216 hq8 dX10_shard_72 ?_
      exact R_iret X hr hk0 dX10_shard_73 hf
    have hf := zelse hf c9
    by_cases c11 : v2 = 2
    · have hf := zthen hf c11
      refine R_tableIn X (o := 64) 74 c11 dX10_shard_10 (by decide) (by decide) (by decide) (by decide +kernel) (by decide) ?_
      refine R_aload_n X 0 dX10_shard_74 rfl rfl ?_
      refine R_getR X (j := 0) 1 216 lc_215 rfl inX10 (by decide) rfl rfl (by decide) rfl rfl wf_X10_7 dX10_shard_75 ?_
      refine R_sipush X dX10_shard_78 (by decide +kernel) ?_
      refine R_iload_n X 1 dX10_shard_81 rfl rfl ?_
      refine R_iadd X dX10_shard_82 ?_
      obtain ⟨hq10, hf⟩ := zgrd hf
      refine R_iald X lc_216 hq10 dX10_shard_83 ?_
      exact R_iret X hr hk0 dX10_shard_84 hf
    have hf := zelse hf c11
    by_cases c15 : v2 = 3
    · have hf := zthen hf c15
      refine R_tableIn X (o := 75) 85 c15 dX10_shard_10 (by decide) (by decide) (by decide) (by decide +kernel) (by decide) ?_
      refine R_aload_n X 0 dX10_shard_85 rfl rfl ?_
      refine R_iload_n X 1 dX10_shard_86 rfl rfl ?_
      obtain ⟨r12, M13, hc14, hf⟩ := zbnd_some hf
      refine R_callVi X (av := [.int (zI v1)]) (rest := []) (c_X10_tracksOf l D cas ad hi hc14) zy_X10_tracksOf lc_215 rfl rfl wm_X10_193 rfl rfl ⟨Nat.le_of_ble_eq_true rfl, Nat.le_of_ble_eq_true rfl⟩ ⟨Nat.le_refl _, Nat.le_refl _⟩ (Nat.le_of_ble_eq_true rfl) dX10_shard_87 ?_
      exact R_iret X hr hk0 dX10_shard_90 hf
    have hf := zelse hf c15
    by_cases c19 : v2 = 4
    · have hf := zthen hf c19
      refine R_tableIn X (o := 81) 91 c19 dX10_shard_10 (by decide) (by decide) (by decide) (by decide +kernel) (by decide) ?_
      refine R_aload_n X 0 dX10_shard_91 rfl rfl ?_
      refine R_iload_n X 1 dX10_shard_92 rfl rfl ?_
      obtain ⟨r16, M17, hc18, hf⟩ := zbnd_some hf
      refine R_callVi X (av := [.int (zI v1)]) (rest := []) (c_X10_orderOf l D cas ad hi hc18) zy_X10_orderOf lc_215 rfl rfl wm_X10_95 rfl rfl ⟨Nat.le_of_ble_eq_true rfl, Nat.le_of_ble_eq_true rfl⟩ ⟨Nat.le_refl _, Nat.le_refl _⟩ (Nat.le_of_ble_eq_true rfl) dX10_shard_93 ?_
      exact R_iret X hr hk0 dX10_shard_96 hf
    have hf := zelse hf c19
    by_cases c23 : v2 = 5
    · have hf := zthen hf c23
      refine R_tableIn X (o := 87) 97 c23 dX10_shard_10 (by decide) (by decide) (by decide) (by decide +kernel) (by decide) ?_
      refine R_aload_n X 0 dX10_shard_97 rfl rfl ?_
      refine R_iload_n X 1 dX10_shard_98 rfl rfl ?_
      obtain ⟨r20, M21, hc22, hf⟩ := zbnd_some hf
      refine R_callVi X (av := [.int (zI v1)]) (rest := []) (c_X10_lookedAt l D cas ad hi hc22) zy_X10_lookedAt lc_215 rfl rfl wm_X10_98 rfl rfl ⟨Nat.le_of_ble_eq_true rfl, Nat.le_of_ble_eq_true rfl⟩ ⟨Nat.le_refl _, Nat.le_refl _⟩ (Nat.le_of_ble_eq_true rfl) dX10_shard_99 ?_
      exact R_iret X hr hk0 dX10_shard_102 hf
    have hf := zelse hf c23
    by_cases c27 : v2 = 6
    · have hf := zthen hf c27
      refine R_tableIn X (o := 93) 103 c27 dX10_shard_10 (by decide) (by decide) (by decide) (by decide +kernel) (by decide) ?_
      refine R_aload_n X 0 dX10_shard_103 rfl rfl ?_
      refine R_iload_n X 1 dX10_shard_104 rfl rfl ?_
      obtain ⟨r24, M25, hc26, hf⟩ := zbnd_some hf
      refine R_callVi X (av := [.int (zI v1)]) (rest := []) (c_X10_sumOf l D cas ad hi hc26) zy_X10_sumOf lc_215 rfl rfl wm_X10_196 rfl rfl ⟨Nat.le_of_ble_eq_true rfl, Nat.le_of_ble_eq_true rfl⟩ ⟨Nat.le_refl _, Nat.le_refl _⟩ (Nat.le_of_ble_eq_true rfl) dX10_shard_105 ?_
      exact R_iret X hr hk0 dX10_shard_108 hf
    have hf := zelse hf c27
    refine R_tableOut X 109 hq5 dX10_shard_10 (by omega) (by decide) ?_
    refine R_bipush X dX10_shard_109 (by decide +kernel) ?_
    exact R_iret X hr hk0 dX10_shard_111 hf
  · have hf := zthen hf c28
    refine R_iconst X dX10_shard_7 ?_
    exact R_iret X hr hk0 dX10_shard_8 hf
theorem dX10_track_0 : decode cX10_track 0 = .ok (.aload_n 0, 1) := by decide +kernel
theorem dX10_track_1 : decode cX10_track 1 = .ok (.iload_n 1, 1) := by decide +kernel
theorem dX10_track_2 : decode cX10_track 2 = .ok (.invokevirtual 42, 3) := by decide +kernel
theorem dX10_track_5 : decode cX10_track 5 = .ok (.ifCond .eq 10, 3) := by decide +kernel
theorem dX10_track_8 : decode cX10_track 8 = .ok (.iload_n 2, 1) := by decide +kernel
theorem dX10_track_9 : decode cX10_track 9 = .ok (.invokestatic 74, 3) := by decide +kernel
theorem dX10_track_12 : decode cX10_track 12 = .ok (.ifCond .ne 5, 3) := by decide +kernel
theorem dX10_track_15 : decode cX10_track 15 = .ok (.iconst (-1), 1) := by decide +kernel
theorem dX10_track_16 : decode cX10_track 16 = .ok (.ireturn, 1) := by decide +kernel
theorem dX10_track_17 : decode cX10_track 17 = .ok (.iload_n 3, 1) := by decide +kernel
theorem dX10_track_18 : decode cX10_track 18 = .ok (.iconst 0, 1) := by decide +kernel
theorem dX10_track_19 : decode cX10_track 19 = .ok (.iconst 2, 1) := by decide +kernel
theorem dX10_track_20 : decode cX10_track 20 = .ok (.invokestatic 34, 3) := by decide +kernel
theorem dX10_track_23 : decode cX10_track 23 = .ok (.ifCond .ne 6, 3) := by decide +kernel
theorem dX10_track_26 : decode cX10_track 26 = .ok (.bipush (-2), 2) := by decide +kernel
theorem dX10_track_28 : decode cX10_track 28 = .ok (.ireturn, 1) := by decide +kernel
theorem dX10_track_29 : decode cX10_track 29 = .ok (.iload_n 3, 1) := by decide +kernel
theorem dX10_track_30 : decode cX10_track 30 = .ok (.iconst 2, 1) := by decide +kernel
theorem dX10_track_31 : decode cX10_track 31 = .ok (.if_icmp .ne 18, 3) := by decide +kernel
theorem dX10_track_34 : decode cX10_track 34 = .ok (.aload_n 0, 1) := by decide +kernel
theorem dX10_track_35 : decode cX10_track 35 = .ok (.getfield 7, 3) := by decide +kernel
theorem dX10_track_38 : decode cX10_track 38 = .ok (.bipush 32, 2) := by decide +kernel
theorem dX10_track_40 : decode cX10_track 40 = .ok (.iload_n 1, 1) := by decide +kernel
theorem dX10_track_41 : decode cX10_track 41 = .ok (.iload_n 2, 1) := by decide +kernel
theorem dX10_track_42 : decode cX10_track 42 = .ok (.invokestatic 70, 3) := by decide +kernel
theorem dX10_track_45 : decode cX10_track 45 = .ok (.iaload, 1) := by decide +kernel
theorem dX10_track_46 : decode cX10_track 46 = .ok (.goto 16, 3) := by decide +kernel
theorem dX10_track_49 : decode cX10_track 49 = .ok (.aload_n 0, 1) := by decide +kernel
theorem dX10_track_50 : decode cX10_track 50 = .ok (.getfield 7, 3) := by decide +kernel
theorem dX10_track_53 : decode cX10_track 53 = .ok (.sipush 160, 3) := by decide +kernel
theorem dX10_track_56 : decode cX10_track 56 = .ok (.iload_n 1, 1) := by decide +kernel
theorem dX10_track_57 : decode cX10_track 57 = .ok (.iload_n 2, 1) := by decide +kernel
theorem dX10_track_58 : decode cX10_track 58 = .ok (.invokestatic 70, 3) := by decide +kernel
theorem dX10_track_61 : decode cX10_track 61 = .ok (.iaload, 1) := by decide +kernel
theorem dX10_track_62 : decode cX10_track 62 = .ok (.istore 4, 2) := by decide +kernel
theorem dX10_track_64 : decode cX10_track 64 = .ok (.iload 4, 2) := by decide +kernel
theorem dX10_track_66 : decode cX10_track 66 = .ok (.ifCond .ne 8, 3) := by decide +kernel
theorem dX10_track_69 : decode cX10_track 69 = .ok (.bipush (-5), 2) := by decide +kernel
theorem dX10_track_71 : decode cX10_track 71 = .ok (.goto 28, 3) := by decide +kernel
theorem dX10_track_74 : decode cX10_track 74 = .ok (.iload_n 3, 1) := by decide +kernel
theorem dX10_track_75 : decode cX10_track 75 = .ok (.iconst 1, 1) := by decide +kernel
theorem dX10_track_76 : decode cX10_track 76 = .ok (.if_icmp .ne 19, 3) := by decide +kernel
theorem dX10_track_79 : decode cX10_track 79 = .ok (.aload_n 0, 1) := by decide +kernel
theorem dX10_track_80 : decode cX10_track 80 = .ok (.getfield 7, 3) := by decide +kernel
theorem dX10_track_83 : decode cX10_track 83 = .ok (.sipush 288, 3) := by decide +kernel
theorem dX10_track_86 : decode cX10_track 86 = .ok (.iload_n 1, 1) := by decide +kernel
theorem dX10_track_87 : decode cX10_track 87 = .ok (.iload_n 2, 1) := by decide +kernel
theorem dX10_track_88 : decode cX10_track 88 = .ok (.invokestatic 70, 3) := by decide +kernel
theorem dX10_track_91 : decode cX10_track 91 = .ok (.iaload, 1) := by decide +kernel
theorem dX10_track_92 : decode cX10_track 92 = .ok (.goto 7, 3) := by decide +kernel
theorem dX10_track_95 : decode cX10_track 95 = .ok (.iload 4, 2) := by decide +kernel
theorem dX10_track_97 : decode cX10_track 97 = .ok (.iconst 1, 1) := by decide +kernel
theorem dX10_track_98 : decode cX10_track 98 = .ok (.isub, 1) := by decide +kernel
theorem dX10_track_99 : decode cX10_track 99 = .ok (.ireturn, 1) := by decide +kernel
set_option maxRecDepth 100000 in
set_option maxHeartbeats 4000000 in
theorem c_X10_track (l : Launch) (D : va_G) (cas : Nat → ClassId) (ad : Nat → Nat) (hi : zInj ad) {v1 : Int} {v2 : Int} {v3 : Int}  {r : Int} {M M' : Mem} (hf : f_X10_track v1 v2 v3 M = some (r, M')) : zMi l D cas ad yX10_track cX10_track 5 (some .int) 2 43 [.ref (ad 215), .int (zI v1), .int (zI v2), .int (zI v3)] M r M' := by
  refine zbody (by decide) (Nat.le_of_ble_eq_true rfl) hi ?_
  intro p e s m args below meth c X hr hk0
  have X : zX p s m args c cX10_track "ShardTrailsModel" 5 D cas ad (zA ad) := X
  have hB15 : ∀ (M : Mem), f_X10_track_b15 M = some (r, M') → WW p l e (zrm 2 43) s m args below meth c D cas ad (zA ad) 5 0 0 (MQ below (zQi D cas ad r M') args s 0 0 (zA ad)) 15 [] [] M := by
    intro M hf
    unfold f_X10_track_b15 at hf
    refine R_iconst X dX10_track_15 ?_
    exact R_iret X hr hk0 dX10_track_16 hf
  have hB99 : ∀ (t1 : Int) (M : Mem), f_X10_track_b99 t1 M = some (r, M') → WW p l e (zrm 2 43) s m args below meth c D cas ad (zA ad) 5 0 0 (MQ below (zQi D cas ad r M') args s 0 0 (zA ad)) 99 [] [.int (zI t1)] M := by
    intro t1 M hf
    unfold f_X10_track_b99 at hf
    exact R_iret X hr hk0 dX10_track_99 hf
  have hB62 : ∀ (v1 v2 v3 t1 : Int) (M : Mem), f_X10_track_b62 v1 v2 v3 t1 M = some (r, M') → WW p l e (zrm 2 43) s m args below meth c D cas ad (zA ad) 5 0 0 (MQ below (zQi D cas ad r M') args s 0 0 (zA ad)) 62 [(0, .ref (ad 215)), (1, .int (zI v1)), (2, .int (zI v2)), (3, .int (zI v3))] [.int (zI t1)] M := by
    intro v1 v2 v3 t1 M hf
    unfold f_X10_track_b62 at hf
    refine R_istore X (lv' := [(4, .int (zI t1)), (0, .ref (ad 215)), (1, .int (zI v1)), (2, .int (zI v2)), (3, .int (zI v3))]) dX10_track_62 (by decide) rfl ?_
    refine R_iload X 0 dX10_track_64 rfl ?_
    obtain ⟨hq26, hf⟩ := zgrd hf
    refine R_if_ne X 74 hq26 dX10_track_66 (by decide) (fun c33 => ?_) (fun c33 => ?_)
    · have hf := zelse hf c33
      refine R_iload_n X 4 dX10_track_74 rfl rfl ?_
      refine R_iconst X dX10_track_75 ?_
      obtain ⟨hq27, hf⟩ := zgrd hf
      refine R_icmp_ne X 95 ⟨hq27, (by decide)⟩ dX10_track_76 (by decide) (fun c32 => ?_) (fun c32 => ?_)
      · have hf := zelse hf c32
        refine R_iload X 0 dX10_track_95 rfl ?_
        refine R_iconst X dX10_track_97 ?_
        refine R_isub X dX10_track_98 ?_
        exact R_sub [] rfl (hB99 (t1 - 1) M hf)
      · have hf := zthen hf c32
        refine R_aload_n X 1 dX10_track_79 rfl rfl ?_
        refine R_getR X (j := 0) 1 216 lc_215 rfl inX10 (by decide) rfl rfl (by decide) rfl rfl wf_X10_7 dX10_track_80 ?_
        refine R_sipush X dX10_track_83 (by decide +kernel) ?_
        refine R_iload_n X 2 dX10_track_86 rfl rfl ?_
        refine R_iload_n X 3 dX10_track_87 rfl rfl ?_
        obtain ⟨r28, M29, hc30, hf⟩ := zbnd_some hf
        refine R_callSi X (av := [.int (zI 288), .int (zI v1), .int (zI v2)]) (rest := [.ref (ad 216)]) (c_X10_at l D cas ad hi hc30) zy_X10_at wm_X10_70 rfl rfl ⟨Nat.le_of_ble_eq_true rfl, Nat.le_of_ble_eq_true rfl⟩ ⟨Nat.le_refl _, Nat.le_refl _⟩ (Nat.le_of_ble_eq_true rfl) dX10_track_88 ?_
        obtain ⟨hq31, hf⟩ := zgrd hf
        refine R_iald X lc_216 hq31 dX10_track_91 ?_
        refine R_goto X 99 dX10_track_92 (by decide) ?_
        exact R_sub [] rfl (hB99 (M29 216 r28.toNat) M29 hf)
    · have hf := zthen hf c33
      refine R_bipush X dX10_track_69 (by decide +kernel) ?_
      refine R_goto X 99 dX10_track_71 (by decide) ?_
      exact R_sub [] rfl (hB99 (-5) M hf)
  unfold f_X10_track at hf
  refine (?_ : WW p l e (zrm 2 43) s m args below meth c D cas ad (zA ad) 5 0 0 (MQ below (zQi D cas ad r M') args s 0 0 (zA ad)) 0 [(0, .ref (ad 215)), (1, .int (zI v1)), (2, .int (zI v2)), (3, .int (zI v3))] [] M)
  refine R_aload_n X 0 dX10_track_0 rfl rfl ?_
  refine R_iload_n X 1 dX10_track_1 rfl rfl ?_
  obtain ⟨r1, M2, hc3, hf⟩ := zbnd_some hf
  refine R_callVi X (av := [.int (zI v1)]) (rest := []) (c_X10_isPasture l D cas ad hi hc3) zy_X10_isPasture lc_215 rfl rfl wm_X10_42 rfl rfl ⟨Nat.le_of_ble_eq_true rfl, Nat.le_of_ble_eq_true rfl⟩ ⟨Nat.le_refl _, Nat.le_refl _⟩ (Nat.le_of_ble_eq_true rfl) dX10_track_2 ?_
  obtain ⟨hq4, hf⟩ := zgrd hf
  refine R_if_eq X 15 hq4 dX10_track_5 (by decide) (fun c25 => ?_) (fun c25 => ?_)
  · have hf := zthen hf c25
    exact R_sub [] rfl (hB15 M2 hf)
  · have hf := zelse hf c25
    refine R_iload_n X 2 dX10_track_8 rfl rfl ?_
    obtain ⟨r5, M6, hc7, hf⟩ := zbnd_some hf
    refine R_callSi X (av := [.int (zI v2)]) (rest := []) (c_X10_isShard l D cas ad hi hc7) zy_X10_isShard wm_X10_74 rfl rfl ⟨Nat.le_of_ble_eq_true rfl, Nat.le_of_ble_eq_true rfl⟩ ⟨Nat.le_refl _, Nat.le_refl _⟩ (Nat.le_of_ble_eq_true rfl) dX10_track_9 ?_
    obtain ⟨hq8, hf⟩ := zgrd hf
    refine R_if_ne X 17 hq8 dX10_track_12 (by decide) (fun c24 => ?_) (fun c24 => ?_)
    · have hf := zelse hf c24
      refine R_iload_n X 3 dX10_track_17 rfl rfl ?_
      refine R_iconst X dX10_track_18 ?_
      refine R_iconst X dX10_track_19 ?_
      obtain ⟨r9, M10, hc11, hf⟩ := zbnd_some hf
      refine R_callSi X (av := [.int (zI v3), .int (zI 0), .int (zI 2)]) (rest := []) (c_X10_in l D cas ad hi hc11) zy_X10_in wm_X10_34 rfl rfl ⟨Nat.le_of_ble_eq_true rfl, Nat.le_of_ble_eq_true rfl⟩ ⟨Nat.le_refl _, Nat.le_refl _⟩ (Nat.le_of_ble_eq_true rfl) dX10_track_20 ?_
      obtain ⟨hq12, hf⟩ := zgrd hf
      refine R_if_ne X 29 hq12 dX10_track_23 (by decide) (fun c23 => ?_) (fun c23 => ?_)
      · have hf := zelse hf c23
        refine R_iload_n X 3 dX10_track_29 rfl rfl ?_
        refine R_iconst X dX10_track_30 ?_
        obtain ⟨hq13, hf⟩ := zgrd hf
        refine R_icmp_ne X 49 ⟨hq13, (by decide)⟩ dX10_track_31 (by decide) (fun c22 => ?_) (fun c22 => ?_)
        · have hf := zelse hf c22
          refine R_aload_n X 0 dX10_track_49 rfl rfl ?_
          refine R_getR X (j := 0) 1 216 lc_215 rfl inX10 (by decide) rfl rfl (by decide) rfl rfl wf_X10_7 dX10_track_50 ?_
          refine R_sipush X dX10_track_53 (by decide +kernel) ?_
          refine R_iload_n X 1 dX10_track_56 rfl rfl ?_
          refine R_iload_n X 2 dX10_track_57 rfl rfl ?_
          obtain ⟨r14, M15, hc16, hf⟩ := zbnd_some hf
          refine R_callSi X (av := [.int (zI 160), .int (zI v1), .int (zI v2)]) (rest := [.ref (ad 216)]) (c_X10_at l D cas ad hi hc16) zy_X10_at wm_X10_70 rfl rfl ⟨Nat.le_of_ble_eq_true rfl, Nat.le_of_ble_eq_true rfl⟩ ⟨Nat.le_refl _, Nat.le_refl _⟩ (Nat.le_of_ble_eq_true rfl) dX10_track_58 ?_
          obtain ⟨hq17, hf⟩ := zgrd hf
          refine R_iald X lc_216 hq17 dX10_track_61 ?_
          exact R_sub [0, 1, 2, 3] rfl (hB62 v1 v2 v3 (M15 216 r14.toNat) M15 hf)
        · have hf := zthen hf c22
          refine R_aload_n X 0 dX10_track_34 rfl rfl ?_
          refine R_getR X (j := 0) 1 216 lc_215 rfl inX10 (by decide) rfl rfl (by decide) rfl rfl wf_X10_7 dX10_track_35 ?_
          refine R_bipush X dX10_track_38 (by decide +kernel) ?_
          refine R_iload_n X 1 dX10_track_40 rfl rfl ?_
          refine R_iload_n X 2 dX10_track_41 rfl rfl ?_
          obtain ⟨r18, M19, hc20, hf⟩ := zbnd_some hf
          refine R_callSi X (av := [.int (zI 32), .int (zI v1), .int (zI v2)]) (rest := [.ref (ad 216)]) (c_X10_at l D cas ad hi hc20) zy_X10_at wm_X10_70 rfl rfl ⟨Nat.le_of_ble_eq_true rfl, Nat.le_of_ble_eq_true rfl⟩ ⟨Nat.le_refl _, Nat.le_refl _⟩ (Nat.le_of_ble_eq_true rfl) dX10_track_42 ?_
          obtain ⟨hq21, hf⟩ := zgrd hf
          refine R_iald X lc_216 hq21 dX10_track_45 ?_
          refine R_goto X 62 dX10_track_46 (by decide) ?_
          exact R_sub [0, 1, 2, 3] rfl (hB62 v1 v2 v3 (M19 216 r18.toNat) M19 hf)
      · have hf := zthen hf c23
        refine R_bipush X dX10_track_26 (by decide +kernel) ?_
        exact R_iret X hr hk0 dX10_track_28 hf
    · have hf := zthen hf c24
      exact R_sub [] rfl (hB15 M6 hf)
theorem dX10_type_0 : decode cX10_type 0 = .ok (.aload_n 0, 1) := by decide +kernel
theorem dX10_type_1 : decode cX10_type 1 = .ok (.getfield 156, 3) := by decide +kernel
theorem dX10_type_4 : decode cX10_type 4 = .ok (.bipush 60, 2) := by decide +kernel
theorem dX10_type_6 : decode cX10_type 6 = .ok (.if_icmp .ne 6, 3) := by decide +kernel
theorem dX10_type_9 : decode cX10_type 9 = .ok (.bipush (-3), 2) := by decide +kernel
theorem dX10_type_11 : decode cX10_type 11 = .ok (.ireturn, 1) := by decide +kernel
theorem dX10_type_12 : decode cX10_type 12 = .ok (.aload_n 0, 1) := by decide +kernel
theorem dX10_type_13 : decode cX10_type 13 = .ok (.getfield 13, 3) := by decide +kernel
theorem dX10_type_16 : decode cX10_type 16 = .ok (.aload_n 0, 1) := by decide +kernel
theorem dX10_type_17 : decode cX10_type 17 = .ok (.getfield 156, 3) := by decide +kernel
theorem dX10_type_20 : decode cX10_type 20 = .ok (.iload_n 1, 1) := by decide +kernel
theorem dX10_type_21 : decode cX10_type 21 = .ok (.iastore, 1) := by decide +kernel
theorem dX10_type_22 : decode cX10_type 22 = .ok (.aload_n 0, 1) := by decide +kernel
theorem dX10_type_23 : decode cX10_type 23 = .ok (.dup, 1) := by decide +kernel
theorem dX10_type_24 : decode cX10_type 24 = .ok (.getfield 156, 3) := by decide +kernel
theorem dX10_type_27 : decode cX10_type 27 = .ok (.iconst 1, 1) := by decide +kernel
theorem dX10_type_28 : decode cX10_type 28 = .ok (.iadd, 1) := by decide +kernel
theorem dX10_type_29 : decode cX10_type 29 = .ok (.putfield 156, 3) := by decide +kernel
theorem dX10_type_32 : decode cX10_type 32 = .ok (.aload_n 0, 1) := by decide +kernel
theorem dX10_type_33 : decode cX10_type 33 = .ok (.getfield 156, 3) := by decide +kernel
theorem dX10_type_36 : decode cX10_type 36 = .ok (.ireturn, 1) := by decide +kernel
set_option maxRecDepth 100000 in
set_option maxHeartbeats 4000000 in
theorem c_X10_type (l : Launch) (D : va_G) (cas : Nat → ClassId) (ad : Nat → Nat) (hi : zInj ad) {v1 : Int}  {r : Int} {M M' : Mem} (hf : f_X10_type v1 M = some (r, M')) : zMi l D cas ad yX10_type cX10_type 2 (some .int) 0 0 [.ref (ad 215), .int (zI v1)] M r M' := by
  refine zbody (by decide) (Nat.le_of_ble_eq_true rfl) hi ?_
  intro p e s m args below meth c X hr hk0
  have X : zX p s m args c cX10_type "ShardTrailsModel" 2 D cas ad (zA ad) := X
  unfold f_X10_type at hf
  refine (?_ : WW p l e (zrm 0 0) s m args below meth c D cas ad (zA ad) 2 0 0 (MQ below (zQi D cas ad r M') args s 0 0 (zA ad)) 0 [(0, .ref (ad 215)), (1, .int (zI v1))] [] M)
  refine R_aload_n X 0 dX10_type_0 rfl rfl ?_
  refine R_getI X (j := 4) lc_215 rfl inX10 (by decide) rfl rfl rfl wf_X10_156 dX10_type_1 ?_
  refine R_bipush X dX10_type_4 (by decide +kernel) ?_
  obtain ⟨hq1, hf⟩ := zgrd hf
  refine R_icmp_ne X 12 ⟨hq1, (by decide)⟩ dX10_type_6 (by decide) (fun c5 => ?_) (fun c5 => ?_)
  · have hf := zelse hf c5
    refine R_aload_n X 0 dX10_type_12 rfl rfl ?_
    refine R_getR X (j := 3) 2 217 lc_215 rfl inX10 (by decide) rfl rfl (by decide) rfl rfl wf_X10_13 dX10_type_13 ?_
    refine R_aload_n X 0 dX10_type_16 rfl rfl ?_
    refine R_getI X (j := 4) lc_215 rfl inX10 (by decide) rfl rfl rfl wf_X10_156 dX10_type_17 ?_
    refine R_iload_n X 1 dX10_type_20 rfl rfl ?_
    obtain ⟨hq2, hf⟩ := zgrd hf
    obtain ⟨M3, eM3, hf⟩ := zlt_some hf
    refine R_iast X lc_217 hq2 dX10_type_21 ?_
    refine R_mem eM3 ?_
    refine R_aload_n X 0 dX10_type_22 rfl rfl ?_
    refine R_dup X dX10_type_23 rfl ?_
    refine R_getI X (j := 4) lc_215 rfl inX10 (by decide) rfl rfl rfl wf_X10_156 dX10_type_24 ?_
    refine R_iconst X dX10_type_27 ?_
    refine R_iadd X dX10_type_28 ?_
    obtain ⟨M4, eM4, hf⟩ := zlt_some hf
    refine R_put X (j := 4) lc_215 rfl inX10 tyX10_ok nmX10 (by decide) rfl rfl rfl wf_X10_156 rfl (by decide +kernel) (z_nI _) (z_fI _) dX10_type_29 ?_
    refine R_mem eM4 ?_
    refine R_aload_n X 0 dX10_type_32 rfl rfl ?_
    refine R_getI X (j := 4) lc_215 rfl inX10 (by decide) rfl rfl rfl wf_X10_156 dX10_type_33 ?_
    exact R_iret X hr hk0 dX10_type_36 hf
  · have hf := zthen hf c5
    refine R_bipush X dX10_type_9 (by decide +kernel) ?_
    exact R_iret X hr hk0 dX10_type_11 hf
theorem dX10_undo_0 : decode cX10_undo 0 = .ok (.aload_n 0, 1) := by decide +kernel
theorem dX10_undo_1 : decode cX10_undo 1 = .ok (.getfield 19, 3) := by decide +kernel
theorem dX10_undo_4 : decode cX10_undo 4 = .ok (.ifCond .ne 6, 3) := by decide +kernel
theorem dX10_undo_7 : decode cX10_undo 7 = .ok (.bipush (-5), 2) := by decide +kernel
theorem dX10_undo_9 : decode cX10_undo 9 = .ok (.ireturn, 1) := by decide +kernel
theorem dX10_undo_10 : decode cX10_undo 10 = .ok (.aload_n 0, 1) := by decide +kernel
theorem dX10_undo_11 : decode cX10_undo 11 = .ok (.dup, 1) := by decide +kernel
theorem dX10_undo_12 : decode cX10_undo 12 = .ok (.getfield 19, 3) := by decide +kernel
theorem dX10_undo_15 : decode cX10_undo 15 = .ok (.iconst 1, 1) := by decide +kernel
theorem dX10_undo_16 : decode cX10_undo 16 = .ok (.isub, 1) := by decide +kernel
theorem dX10_undo_17 : decode cX10_undo 17 = .ok (.putfield 19, 3) := by decide +kernel
theorem dX10_undo_20 : decode cX10_undo 20 = .ok (.aload_n 0, 1) := by decide +kernel
theorem dX10_undo_21 : decode cX10_undo 21 = .ok (.sipush 871, 3) := by decide +kernel
theorem dX10_undo_24 : decode cX10_undo 24 = .ok (.sipush 871, 3) := by decide +kernel
theorem dX10_undo_27 : decode cX10_undo 27 = .ok (.aload_n 0, 1) := by decide +kernel
theorem dX10_undo_28 : decode cX10_undo 28 = .ok (.getfield 19, 3) := by decide +kernel
theorem dX10_undo_31 : decode cX10_undo 31 = .ok (.imul, 1) := by decide +kernel
theorem dX10_undo_32 : decode cX10_undo 32 = .ok (.iadd, 1) := by decide +kernel
theorem dX10_undo_33 : decode cX10_undo 33 = .ok (.iconst 0, 1) := by decide +kernel
theorem dX10_undo_34 : decode cX10_undo 34 = .ok (.invokevirtual 23, 3) := by decide +kernel
theorem dX10_undo_37 : decode cX10_undo 37 = .ok (.aload_n 0, 1) := by decide +kernel
theorem dX10_undo_38 : decode cX10_undo 38 = .ok (.getfield 19, 3) := by decide +kernel
theorem dX10_undo_41 : decode cX10_undo 41 = .ok (.ireturn, 1) := by decide +kernel
set_option maxRecDepth 100000 in
set_option maxHeartbeats 4000000 in
theorem c_X10_undo (l : Launch) (D : va_G) (cas : Nat → ClassId) (ad : Nat → Nat) (hi : zInj ad)   {r : Int} {M M' : Mem} (hf : f_X10_undo M = some (r, M')) : zMi l D cas ad yX10_undo cX10_undo 1 (some .int) 1 23 [.ref (ad 215)] M r M' := by
  refine zbody (by decide) (Nat.le_of_ble_eq_true rfl) hi ?_
  intro p e s m args below meth c X hr hk0
  have X : zX p s m args c cX10_undo "ShardTrailsModel" 1 D cas ad (zA ad) := X
  unfold f_X10_undo at hf
  refine (?_ : WW p l e (zrm 1 23) s m args below meth c D cas ad (zA ad) 1 0 0 (MQ below (zQi D cas ad r M') args s 0 0 (zA ad)) 0 [(0, .ref (ad 215))] [] M)
  refine R_aload_n X 0 dX10_undo_0 rfl rfl ?_
  refine R_getI X (j := 1) lc_215 rfl inX10 (by decide) rfl rfl rfl wf_X10_19 dX10_undo_1 ?_
  obtain ⟨hq1, hf⟩ := zgrd hf
  refine R_if_ne X 10 hq1 dX10_undo_4 (by decide) (fun c6 => ?_) (fun c6 => ?_)
  · have hf := zelse hf c6
    refine R_aload_n X 0 dX10_undo_10 rfl rfl ?_
    refine R_dup X dX10_undo_11 rfl ?_
    refine R_getI X (j := 1) lc_215 rfl inX10 (by decide) rfl rfl rfl wf_X10_19 dX10_undo_12 ?_
    refine R_iconst X dX10_undo_15 ?_
    refine R_isub X dX10_undo_16 ?_
    obtain ⟨M2, eM2, hf⟩ := zlt_some hf
    refine R_put X (j := 1) lc_215 rfl inX10 tyX10_ok nmX10 (by decide) rfl rfl rfl wf_X10_19 rfl (by decide +kernel) (z_nI _) (z_fI _) dX10_undo_17 ?_
    refine R_mem eM2 ?_
    refine R_aload_n X 0 dX10_undo_20 rfl rfl ?_
    refine R_sipush X dX10_undo_21 (by decide +kernel) ?_
    refine R_sipush X dX10_undo_24 (by decide +kernel) ?_
    refine R_aload_n X 0 dX10_undo_27 rfl rfl ?_
    refine R_getI X (j := 1) lc_215 rfl inX10 (by decide) rfl rfl rfl wf_X10_19 dX10_undo_28 ?_
    refine R_imul X dX10_undo_31 ?_
    refine R_iadd X dX10_undo_32 ?_
    refine R_iconst X dX10_undo_33 ?_
    obtain ⟨r3, M4, hc5, hf⟩ := zbnd_some hf
    refine R_callVv X (av := [.int (zI (871 + (871 * (M2 215 1)))), .int (zI 0)]) (rest := []) (c_X10_copy l D cas ad hi hc5) zy_X10_copy lc_215 rfl rfl wm_X10_23 rfl rfl ⟨Nat.le_of_ble_eq_true rfl, Nat.le_of_ble_eq_true rfl⟩ ⟨Nat.le_refl _, Nat.le_refl _⟩ (Nat.le_of_ble_eq_true rfl) dX10_undo_34 ?_
    refine R_aload_n X 0 dX10_undo_37 rfl rfl ?_
    refine R_getI X (j := 1) lc_215 rfl inX10 (by decide) rfl rfl rfl wf_X10_19 dX10_undo_38 ?_
    exact R_iret X hr hk0 dX10_undo_41 hf
  · have hf := zthen hf c6
    refine R_bipush X dX10_undo_7 (by decide +kernel) ?_
    exact R_iret X hr hk0 dX10_undo_9 hf
theorem dX10_value_0 : decode cX10_value 0 = .ok (.iload_n 1, 1) := by decide +kernel
theorem dX10_value_1 : decode cX10_value 1 = .ok (.invokestatic 150, 3) := by decide +kernel
theorem dX10_value_4 : decode cX10_value 4 = .ok (.ifCond .eq 16, 3) := by decide +kernel
theorem dX10_value_7 : decode cX10_value 7 = .ok (.aload_n 0, 1) := by decide +kernel
theorem dX10_value_8 : decode cX10_value 8 = .ok (.getfield 7, 3) := by decide +kernel
theorem dX10_value_11 : decode cX10_value 11 = .ok (.sipush 464, 3) := by decide +kernel
theorem dX10_value_14 : decode cX10_value 14 = .ok (.iload_n 1, 1) := by decide +kernel
theorem dX10_value_15 : decode cX10_value 15 = .ok (.iadd, 1) := by decide +kernel
theorem dX10_value_16 : decode cX10_value 16 = .ok (.iaload, 1) := by decide +kernel
theorem dX10_value_17 : decode cX10_value 17 = .ok (.goto 4, 3) := by decide +kernel
theorem dX10_value_20 : decode cX10_value 20 = .ok (.iconst (-1), 1) := by decide +kernel
theorem dX10_value_21 : decode cX10_value 21 = .ok (.ireturn, 1) := by decide +kernel
set_option maxRecDepth 100000 in
set_option maxHeartbeats 4000000 in
theorem c_X10_value (l : Launch) (D : va_G) (cas : Nat → ClassId) (ad : Nat → Nat) (hi : zInj ad) {v1 : Int}  {r : Int} {M M' : Mem} (hf : f_X10_value v1 M = some (r, M')) : zMi l D cas ad yX10_value cX10_value 2 (some .int) 2 42 [.ref (ad 215), .int (zI v1)] M r M' := by
  refine zbody (by decide) (Nat.le_of_ble_eq_true rfl) hi ?_
  intro p e s m args below meth c X hr hk0
  have X : zX p s m args c cX10_value "ShardTrailsModel" 2 D cas ad (zA ad) := X
  have hB21 : ∀ (t1 : Int) (M : Mem), f_X10_value_b21 t1 M = some (r, M') → WW p l e (zrm 2 42) s m args below meth c D cas ad (zA ad) 2 0 0 (MQ below (zQi D cas ad r M') args s 0 0 (zA ad)) 21 [] [.int (zI t1)] M := by
    intro t1 M hf
    unfold f_X10_value_b21 at hf
    exact R_iret X hr hk0 dX10_value_21 hf
  unfold f_X10_value at hf
  refine (?_ : WW p l e (zrm 2 42) s m args below meth c D cas ad (zA ad) 2 0 0 (MQ below (zQi D cas ad r M') args s 0 0 (zA ad)) 0 [(0, .ref (ad 215)), (1, .int (zI v1))] [] M)
  refine R_iload_n X 1 dX10_value_0 rfl rfl ?_
  obtain ⟨r1, M2, hc3, hf⟩ := zbnd_some hf
  refine R_callSi X (av := [.int (zI v1)]) (rest := []) (c_X10_isKey l D cas ad hi hc3) zy_X10_isKey wm_X10_150 rfl rfl ⟨Nat.le_of_ble_eq_true rfl, Nat.le_of_ble_eq_true rfl⟩ ⟨Nat.le_refl _, Nat.le_refl _⟩ (Nat.le_of_ble_eq_true rfl) dX10_value_1 ?_
  obtain ⟨hq4, hf⟩ := zgrd hf
  refine R_if_eq X 20 hq4 dX10_value_4 (by decide) (fun c6 => ?_) (fun c6 => ?_)
  · have hf := zthen hf c6
    refine R_iconst X dX10_value_20 ?_
    exact R_sub [] rfl (hB21 (-1) M2 hf)
  · have hf := zelse hf c6
    refine R_aload_n X 0 dX10_value_7 rfl rfl ?_
    refine R_getR X (j := 0) 1 216 lc_215 rfl inX10 (by decide) rfl rfl (by decide) rfl rfl wf_X10_7 dX10_value_8 ?_
    refine R_sipush X dX10_value_11 (by decide +kernel) ?_
    refine R_iload_n X 1 dX10_value_14 rfl rfl ?_
    refine R_iadd X dX10_value_15 ?_
    obtain ⟨hq5, hf⟩ := zgrd hf
    refine R_iald X lc_216 hq5 dX10_value_16 ?_
    refine R_goto X 21 dX10_value_17 (by decide) ?_
    exact R_sub [] rfl (hB21 (M2 216 (464 + v1).toNat) M2 hf)
theorem dX10_way_0 : decode cX10_way 0 = .ok (.aload_n 0, 1) := by decide +kernel
theorem dX10_way_1 : decode cX10_way 1 = .ok (.iload_n 1, 1) := by decide +kernel
theorem dX10_way_2 : decode cX10_way 2 = .ok (.invokevirtual 147, 3) := by decide +kernel
theorem dX10_way_5 : decode cX10_way 5 = .ok (.ifCond .eq 10, 3) := by decide +kernel
theorem dX10_way_8 : decode cX10_way 8 = .ok (.iload_n 2, 1) := by decide +kernel
theorem dX10_way_9 : decode cX10_way 9 = .ok (.invokestatic 150, 3) := by decide +kernel
theorem dX10_way_12 : decode cX10_way 12 = .ok (.ifCond .ne 5, 3) := by decide +kernel
theorem dX10_way_15 : decode cX10_way 15 = .ok (.iconst (-1), 1) := by decide +kernel
theorem dX10_way_16 : decode cX10_way 16 = .ok (.ireturn, 1) := by decide +kernel
theorem dX10_way_17 : decode cX10_way 17 = .ok (.iload_n 3, 1) := by decide +kernel
theorem dX10_way_18 : decode cX10_way 18 = .ok (.ifCond .ge 6, 3) := by decide +kernel
theorem dX10_way_21 : decode cX10_way 21 = .ok (.bipush (-2), 2) := by decide +kernel
theorem dX10_way_23 : decode cX10_way 23 = .ok (.ireturn, 1) := by decide +kernel
theorem dX10_way_24 : decode cX10_way 24 = .ok (.aload_n 0, 1) := by decide +kernel
theorem dX10_way_25 : decode cX10_way 25 = .ok (.iload_n 1, 1) := by decide +kernel
theorem dX10_way_26 : decode cX10_way 26 = .ok (.iload_n 2, 1) := by decide +kernel
theorem dX10_way_27 : decode cX10_way 27 = .ok (.bipush 16, 2) := by decide +kernel
theorem dX10_way_29 : decode cX10_way 29 = .ok (.idiv, 1) := by decide +kernel
theorem dX10_way_30 : decode cX10_way 30 = .ok (.invokevirtual 144, 3) := by decide +kernel
theorem dX10_way_33 : decode cX10_way 33 = .ok (.iload_n 3, 1) := by decide +kernel
theorem dX10_way_34 : decode cX10_way 34 = .ok (.aload_n 0, 1) := by decide +kernel
theorem dX10_way_35 : decode cX10_way 35 = .ok (.getfield 113, 3) := by decide +kernel
theorem dX10_way_38 : decode cX10_way 38 = .ok (.if_icmp .ge 12, 3) := by decide +kernel
theorem dX10_way_41 : decode cX10_way 41 = .ok (.aload_n 0, 1) := by decide +kernel
theorem dX10_way_42 : decode cX10_way 42 = .ok (.getfield 16, 3) := by decide +kernel
theorem dX10_way_45 : decode cX10_way 45 = .ok (.iload_n 3, 1) := by decide +kernel
theorem dX10_way_46 : decode cX10_way 46 = .ok (.iaload, 1) := by decide +kernel
theorem dX10_way_47 : decode cX10_way 47 = .ok (.goto 5, 3) := by decide +kernel
theorem dX10_way_50 : decode cX10_way 50 = .ok (.bipush (-5), 2) := by decide +kernel
theorem dX10_way_52 : decode cX10_way 52 = .ok (.ireturn, 1) := by decide +kernel
set_option maxRecDepth 100000 in
set_option maxHeartbeats 4000000 in
theorem c_X10_way (l : Launch) (D : va_G) (cas : Nat → ClassId) (ad : Nat → Nat) (hi : zInj ad) {v1 : Int} {v2 : Int} {v3 : Int}  {r : Int} {M M' : Mem} (hf : f_X10_way v1 v2 v3 M = some (r, M')) : zMi l D cas ad yX10_way cX10_way 4 (some .int) 4 94 [.ref (ad 215), .int (zI v1), .int (zI v2), .int (zI v3)] M r M' := by
  refine zbody (by decide) (Nat.le_of_ble_eq_true rfl) hi ?_
  intro p e s m args below meth c X hr hk0
  have X : zX p s m args c cX10_way "ShardTrailsModel" 4 D cas ad (zA ad) := X
  have hB15 : ∀ (M : Mem), f_X10_way_b15 M = some (r, M') → WW p l e (zrm 4 94) s m args below meth c D cas ad (zA ad) 4 0 0 (MQ below (zQi D cas ad r M') args s 0 0 (zA ad)) 15 [] [] M := by
    intro M hf
    unfold f_X10_way_b15 at hf
    refine R_iconst X dX10_way_15 ?_
    exact R_iret X hr hk0 dX10_way_16 hf
  have hB52 : ∀ (t1 : Int) (M : Mem), f_X10_way_b52 t1 M = some (r, M') → WW p l e (zrm 4 94) s m args below meth c D cas ad (zA ad) 4 0 0 (MQ below (zQi D cas ad r M') args s 0 0 (zA ad)) 52 [] [.int (zI t1)] M := by
    intro t1 M hf
    unfold f_X10_way_b52 at hf
    exact R_iret X hr hk0 dX10_way_52 hf
  unfold f_X10_way at hf
  refine (?_ : WW p l e (zrm 4 94) s m args below meth c D cas ad (zA ad) 4 0 0 (MQ below (zQi D cas ad r M') args s 0 0 (zA ad)) 0 [(0, .ref (ad 215)), (1, .int (zI v1)), (2, .int (zI v2)), (3, .int (zI v3))] [] M)
  refine R_aload_n X 0 dX10_way_0 rfl rfl ?_
  refine R_iload_n X 1 dX10_way_1 rfl rfl ?_
  obtain ⟨r1, M2, hc3, hf⟩ := zbnd_some hf
  refine R_callVi X (av := [.int (zI v1)]) (rest := []) (c_X10_isReader l D cas ad hi hc3) zy_X10_isReader lc_215 rfl rfl wm_X10_147 rfl rfl ⟨Nat.le_of_ble_eq_true rfl, Nat.le_of_ble_eq_true rfl⟩ ⟨Nat.le_refl _, Nat.le_refl _⟩ (Nat.le_of_ble_eq_true rfl) dX10_way_2 ?_
  obtain ⟨hq4, hf⟩ := zgrd hf
  refine R_if_eq X 15 hq4 dX10_way_5 (by decide) (fun c19 => ?_) (fun c19 => ?_)
  · have hf := zthen hf c19
    exact R_sub [] rfl (hB15 M2 hf)
  · have hf := zelse hf c19
    refine R_iload_n X 2 dX10_way_8 rfl rfl ?_
    obtain ⟨r5, M6, hc7, hf⟩ := zbnd_some hf
    refine R_callSi X (av := [.int (zI v2)]) (rest := []) (c_X10_isKey l D cas ad hi hc7) zy_X10_isKey wm_X10_150 rfl rfl ⟨Nat.le_of_ble_eq_true rfl, Nat.le_of_ble_eq_true rfl⟩ ⟨Nat.le_refl _, Nat.le_refl _⟩ (Nat.le_of_ble_eq_true rfl) dX10_way_9 ?_
    obtain ⟨hq8, hf⟩ := zgrd hf
    refine R_if_ne X 17 hq8 dX10_way_12 (by decide) (fun c18 => ?_) (fun c18 => ?_)
    · have hf := zelse hf c18
      refine R_iload_n X 3 dX10_way_17 rfl rfl ?_
      obtain ⟨hq9, hf⟩ := zgrd hf
      refine R_if_ge X 24 hq9 dX10_way_18 (by decide) (fun c17 => ?_) (fun c17 => ?_)
      · have hf := zthen hf c17
        refine R_aload_n X 0 dX10_way_24 rfl rfl ?_
        refine R_iload_n X 1 dX10_way_25 rfl rfl ?_
        refine R_iload_n X 2 dX10_way_26 rfl rfl ?_
        refine R_bipush X dX10_way_27 (by decide +kernel) ?_
        obtain ⟨hq10, hf⟩ := zgrd hf
        refine R_idiv X ⟨⟨hq10, (by decide)⟩, (by decide)⟩ dX10_way_29 ?_
        obtain ⟨r11, M12, hc13, hf⟩ := zbnd_some hf
        refine R_callVv X (av := [.int (zI v1), .int (zI (v2.tdiv 16))]) (rest := []) (c_X10_findWay l D cas ad hi hc13) zy_X10_findWay lc_215 rfl rfl wm_X10_144 rfl rfl ⟨Nat.le_of_ble_eq_true rfl, Nat.le_of_ble_eq_true rfl⟩ ⟨Nat.le_refl _, Nat.le_refl _⟩ (Nat.le_of_ble_eq_true rfl) dX10_way_30 ?_
        refine R_iload_n X 3 dX10_way_33 rfl rfl ?_
        refine R_aload_n X 0 dX10_way_34 rfl rfl ?_
        refine R_getI X (j := 6) lc_215 rfl inX10 (by decide) rfl rfl rfl wf_X10_113 dX10_way_35 ?_
        obtain ⟨hq14, hf⟩ := zgrd hf
        refine R_icmp_ge X 50 ⟨hq9, hq14⟩ dX10_way_38 (by decide) (fun c16 => ?_) (fun c16 => ?_)
        · have hf := zthen hf c16
          refine R_bipush X dX10_way_50 (by decide +kernel) ?_
          exact R_sub [] rfl (hB52 (-5) M12 hf)
        · have hf := zelse hf c16
          refine R_aload_n X 0 dX10_way_41 rfl rfl ?_
          refine R_getR X (j := 5) 3 218 lc_215 rfl inX10 (by decide) rfl rfl (by decide) rfl rfl wf_X10_16 dX10_way_42 ?_
          refine R_iload_n X 3 dX10_way_45 rfl rfl ?_
          obtain ⟨hq15, hf⟩ := zgrd hf
          refine R_iald X lc_218 hq15 dX10_way_46 ?_
          refine R_goto X 52 dX10_way_47 (by decide) ?_
          exact R_sub [] rfl (hB52 (M12 218 v3.toNat) M12 hf)
      · have hf := zelse hf c17
        refine R_bipush X dX10_way_21 (by decide +kernel) ?_
        exact R_iret X hr hk0 dX10_way_23 hf
    · have hf := zthen hf c18
      exact R_sub [] rfl (hB15 M6 hf)
theorem dX10_write_0 : decode cX10_write 0 = .ok (.aload_n 0, 1) := by decide +kernel
theorem dX10_write_1 : decode cX10_write 1 = .ok (.iload_n 1, 1) := by decide +kernel
theorem dX10_write_2 : decode cX10_write 2 = .ok (.invokevirtual 147, 3) := by decide +kernel
theorem dX10_write_5 : decode cX10_write 5 = .ok (.ifCond .eq 10, 3) := by decide +kernel
theorem dX10_write_8 : decode cX10_write 8 = .ok (.iload_n 2, 1) := by decide +kernel
theorem dX10_write_9 : decode cX10_write 9 = .ok (.invokestatic 150, 3) := by decide +kernel
theorem dX10_write_12 : decode cX10_write 12 = .ok (.ifCond .ne 5, 3) := by decide +kernel
theorem dX10_write_15 : decode cX10_write 15 = .ok (.iconst (-1), 1) := by decide +kernel
theorem dX10_write_16 : decode cX10_write 16 = .ok (.ireturn, 1) := by decide +kernel
theorem dX10_write_17 : decode cX10_write 17 = .ok (.iload_n 3, 1) := by decide +kernel
theorem dX10_write_18 : decode cX10_write 18 = .ok (.iconst 0, 1) := by decide +kernel
theorem dX10_write_19 : decode cX10_write 19 = .ok (.sipush 9999, 3) := by decide +kernel
theorem dX10_write_22 : decode cX10_write 22 = .ok (.invokestatic 34, 3) := by decide +kernel
theorem dX10_write_25 : decode cX10_write 25 = .ok (.ifCond .ne 6, 3) := by decide +kernel
theorem dX10_write_28 : decode cX10_write 28 = .ok (.bipush (-2), 2) := by decide +kernel
theorem dX10_write_30 : decode cX10_write 30 = .ok (.ireturn, 1) := by decide +kernel
theorem dX10_write_31 : decode cX10_write 31 = .ok (.aload_n 0, 1) := by decide +kernel
theorem dX10_write_32 : decode cX10_write 32 = .ok (.invokevirtual 31, 3) := by decide +kernel
theorem dX10_write_35 : decode cX10_write 35 = .ok (.aload_n 0, 1) := by decide +kernel
theorem dX10_write_36 : decode cX10_write 36 = .ok (.getfield 7, 3) := by decide +kernel
theorem dX10_write_39 : decode cX10_write 39 = .ok (.sipush 464, 3) := by decide +kernel
theorem dX10_write_42 : decode cX10_write 42 = .ok (.iload_n 2, 1) := by decide +kernel
theorem dX10_write_43 : decode cX10_write 43 = .ok (.iadd, 1) := by decide +kernel
theorem dX10_write_44 : decode cX10_write 44 = .ok (.iload_n 3, 1) := by decide +kernel
theorem dX10_write_45 : decode cX10_write 45 = .ok (.iastore, 1) := by decide +kernel
theorem dX10_write_46 : decode cX10_write 46 = .ok (.aload_n 0, 1) := by decide +kernel
theorem dX10_write_47 : decode cX10_write 47 = .ok (.iload_n 1, 1) := by decide +kernel
theorem dX10_write_48 : decode cX10_write 48 = .ok (.iload_n 2, 1) := by decide +kernel
theorem dX10_write_49 : decode cX10_write 49 = .ok (.invokevirtual 153, 3) := by decide +kernel
theorem dX10_write_52 : decode cX10_write 52 = .ok (.ireturn, 1) := by decide +kernel
set_option maxRecDepth 100000 in
set_option maxHeartbeats 4000000 in
theorem c_X10_write (l : Launch) (D : va_G) (cas : Nat → ClassId) (ad : Nat → Nat) (hi : zInj ad) {v1 : Int} {v2 : Int} {v3 : Int}  {r : Int} {M M' : Mem} (hf : f_X10_write v1 v2 v3 M = some (r, M')) : zMi l D cas ad yX10_write cX10_write 4 (some .int) 5 119 [.ref (ad 215), .int (zI v1), .int (zI v2), .int (zI v3)] M r M' := by
  refine zbody (by decide) (Nat.le_of_ble_eq_true rfl) hi ?_
  intro p e s m args below meth c X hr hk0
  have X : zX p s m args c cX10_write "ShardTrailsModel" 4 D cas ad (zA ad) := X
  have hB15 : ∀ (M : Mem), f_X10_write_b15 M = some (r, M') → WW p l e (zrm 5 119) s m args below meth c D cas ad (zA ad) 4 0 0 (MQ below (zQi D cas ad r M') args s 0 0 (zA ad)) 15 [] [] M := by
    intro M hf
    unfold f_X10_write_b15 at hf
    refine R_iconst X dX10_write_15 ?_
    exact R_iret X hr hk0 dX10_write_16 hf
  unfold f_X10_write at hf
  refine (?_ : WW p l e (zrm 5 119) s m args below meth c D cas ad (zA ad) 4 0 0 (MQ below (zQi D cas ad r M') args s 0 0 (zA ad)) 0 [(0, .ref (ad 215)), (1, .int (zI v1)), (2, .int (zI v2)), (3, .int (zI v3))] [] M)
  refine R_aload_n X 0 dX10_write_0 rfl rfl ?_
  refine R_iload_n X 1 dX10_write_1 rfl rfl ?_
  obtain ⟨r1, M2, hc3, hf⟩ := zbnd_some hf
  refine R_callVi X (av := [.int (zI v1)]) (rest := []) (c_X10_isReader l D cas ad hi hc3) zy_X10_isReader lc_215 rfl rfl wm_X10_147 rfl rfl ⟨Nat.le_of_ble_eq_true rfl, Nat.le_of_ble_eq_true rfl⟩ ⟨Nat.le_refl _, Nat.le_refl _⟩ (Nat.le_of_ble_eq_true rfl) dX10_write_2 ?_
  obtain ⟨hq4, hf⟩ := zgrd hf
  refine R_if_eq X 15 hq4 dX10_write_5 (by decide) (fun c23 => ?_) (fun c23 => ?_)
  · have hf := zthen hf c23
    exact R_sub [] rfl (hB15 M2 hf)
  · have hf := zelse hf c23
    refine R_iload_n X 2 dX10_write_8 rfl rfl ?_
    obtain ⟨r5, M6, hc7, hf⟩ := zbnd_some hf
    refine R_callSi X (av := [.int (zI v2)]) (rest := []) (c_X10_isKey l D cas ad hi hc7) zy_X10_isKey wm_X10_150 rfl rfl ⟨Nat.le_of_ble_eq_true rfl, Nat.le_of_ble_eq_true rfl⟩ ⟨Nat.le_refl _, Nat.le_refl _⟩ (Nat.le_of_ble_eq_true rfl) dX10_write_9 ?_
    obtain ⟨hq8, hf⟩ := zgrd hf
    refine R_if_ne X 17 hq8 dX10_write_12 (by decide) (fun c22 => ?_) (fun c22 => ?_)
    · have hf := zelse hf c22
      refine R_iload_n X 3 dX10_write_17 rfl rfl ?_
      refine R_iconst X dX10_write_18 ?_
      refine R_sipush X dX10_write_19 (by decide +kernel) ?_
      obtain ⟨r9, M10, hc11, hf⟩ := zbnd_some hf
      refine R_callSi X (av := [.int (zI v3), .int (zI 0), .int (zI 9999)]) (rest := []) (c_X10_in l D cas ad hi hc11) zy_X10_in wm_X10_34 rfl rfl ⟨Nat.le_of_ble_eq_true rfl, Nat.le_of_ble_eq_true rfl⟩ ⟨Nat.le_refl _, Nat.le_refl _⟩ (Nat.le_of_ble_eq_true rfl) dX10_write_22 ?_
      obtain ⟨hq12, hf⟩ := zgrd hf
      refine R_if_ne X 31 hq12 dX10_write_25 (by decide) (fun c21 => ?_) (fun c21 => ?_)
      · have hf := zelse hf c21
        refine R_aload_n X 0 dX10_write_31 rfl rfl ?_
        obtain ⟨r13, M14, hc15, hf⟩ := zbnd_some hf
        refine R_callVv X (av := []) (rest := []) (c_X10_record l D cas ad hi hc15) zy_X10_record lc_215 rfl rfl wm_X10_31 rfl rfl ⟨Nat.le_of_ble_eq_true rfl, Nat.le_of_ble_eq_true rfl⟩ ⟨Nat.le_refl _, Nat.le_refl _⟩ (Nat.le_of_ble_eq_true rfl) dX10_write_32 ?_
        refine R_aload_n X 0 dX10_write_35 rfl rfl ?_
        refine R_getR X (j := 0) 1 216 lc_215 rfl inX10 (by decide) rfl rfl (by decide) rfl rfl wf_X10_7 dX10_write_36 ?_
        refine R_sipush X dX10_write_39 (by decide +kernel) ?_
        refine R_iload_n X 2 dX10_write_42 rfl rfl ?_
        refine R_iadd X dX10_write_43 ?_
        refine R_iload_n X 3 dX10_write_44 rfl rfl ?_
        obtain ⟨hq16, hf⟩ := zgrd hf
        obtain ⟨M17, eM17, hf⟩ := zlt_some hf
        refine R_iast X lc_216 hq16 dX10_write_45 ?_
        refine R_mem eM17 ?_
        refine R_aload_n X 0 dX10_write_46 rfl rfl ?_
        refine R_iload_n X 1 dX10_write_47 rfl rfl ?_
        refine R_iload_n X 2 dX10_write_48 rfl rfl ?_
        obtain ⟨r18, M19, hc20, hf⟩ := zbnd_some hf
        refine R_callVi X (av := [.int (zI v1), .int (zI v2)]) (rest := []) (c_X10_reachFor l D cas ad hi hc20) zy_X10_reachFor lc_215 rfl rfl wm_X10_153 rfl rfl ⟨Nat.le_of_ble_eq_true rfl, Nat.le_of_ble_eq_true rfl⟩ ⟨Nat.le_refl _, Nat.le_refl _⟩ (Nat.le_of_ble_eq_true rfl) dX10_write_49 ?_
        exact R_iret X hr hk0 dX10_write_52 hf
      · have hf := zthen hf c21
        refine R_bipush X dX10_write_28 (by decide +kernel) ?_
        exact R_iret X hr hk0 dX10_write_30 hf
    · have hf := zthen hf c22
      exact R_sub [] rfl (hB15 M6 hf)

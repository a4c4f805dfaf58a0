theorem dX0_sumOfValues_0 : decode cX0_sumOfValues 0 = .ok (.iconst 0, 1) := by decide +kernel
theorem dX0_sumOfValues_1 : decode cX0_sumOfValues 1 = .ok (.istore_n 2, 1) := by decide +kernel
theorem dX0_sumOfValues_2 : decode cX0_sumOfValues 2 = .ok (.iconst 0, 1) := by decide +kernel
theorem dX0_sumOfValues_3 : decode cX0_sumOfValues 3 = .ok (.istore_n 3, 1) := by decide +kernel
theorem dX0_sumOfValues_4 : decode cX0_sumOfValues 4 = .ok (.iload_n 3, 1) := by decide +kernel
theorem dX0_sumOfValues_5 : decode cX0_sumOfValues 5 = .ok (.bipush 16, 2) := by decide +kernel
theorem dX0_sumOfValues_7 : decode cX0_sumOfValues 7 = .ok (.if_icmp .ge 23, 3) := by decide +kernel
theorem dX0_sumOfValues_10 : decode cX0_sumOfValues 10 = .ok (.iload_n 2, 1) := by decide +kernel
theorem dX0_sumOfValues_11 : decode cX0_sumOfValues 11 = .ok (.aload_n 0, 1) := by decide +kernel
theorem dX0_sumOfValues_12 : decode cX0_sumOfValues 12 = .ok (.getfield 21, 3) := by decide +kernel
theorem dX0_sumOfValues_15 : decode cX0_sumOfValues 15 = .ok (.iload_n 1, 1) := by decide +kernel
theorem dX0_sumOfValues_16 : decode cX0_sumOfValues 16 = .ok (.bipush 16, 2) := by decide +kernel
theorem dX0_sumOfValues_18 : decode cX0_sumOfValues 18 = .ok (.imul, 1) := by decide +kernel
theorem dX0_sumOfValues_19 : decode cX0_sumOfValues 19 = .ok (.iload_n 3, 1) := by decide +kernel
theorem dX0_sumOfValues_20 : decode cX0_sumOfValues 20 = .ok (.iadd, 1) := by decide +kernel
theorem dX0_sumOfValues_21 : decode cX0_sumOfValues 21 = .ok (.iaload, 1) := by decide +kernel
theorem dX0_sumOfValues_22 : decode cX0_sumOfValues 22 = .ok (.iadd, 1) := by decide +kernel
theorem dX0_sumOfValues_23 : decode cX0_sumOfValues 23 = .ok (.istore_n 2, 1) := by decide +kernel
theorem dX0_sumOfValues_24 : decode cX0_sumOfValues 24 = .ok (.iinc 3 1, 3) := by decide +kernel
theorem dX0_sumOfValues_27 : decode cX0_sumOfValues 27 = .ok (.goto (-23), 3) := by decide +kernel
theorem dX0_sumOfValues_30 : decode cX0_sumOfValues 30 = .ok (.iload_n 2, 1) := by decide +kernel
theorem dX0_sumOfValues_31 : decode cX0_sumOfValues 31 = .ok (.ireturn, 1) := by decide +kernel
set_option maxRecDepth 100000 in
set_option maxHeartbeats 4000000 in
theorem c_X0_sumOfValues (l : Launch) (D : va_G) (cas : Nat → ClassId) (ad : Nat → Nat) (hi : zInj ad) {k : Nat} {v1 : Int} (hk : k < zN ∧ lay k = (0, 0)) {r : Int} {M M' : Mem} (hf : f_X0_sumOfValues k v1 M = some (r, M')) : zMi l D cas ad yX0_sumOfValues cX0_sumOfValues 4 (some .int) 0 0 [.ref (ad k), .int (zI v1)] M r M' := by
  refine zbody (by decide) (Nat.le_of_ble_eq_true rfl) hi ?_
  intro p e s m args below meth c X hr hk0
  have X : zX p s m args c cX0_sumOfValues "ShardTrails$Herd" 4 D cas ad (zA ad) := X
  have hB4 : ∀ (n : Nat) (v1 v2 v3 : Int) (M : Mem), f_X0_sumOfValues_b4 k n v1 v2 v3 M = some (r, M') → WW p l e (zrm 0 0) s m args below meth c D cas ad (zA ad) 4 0 0 (MQ below (zQi D cas ad r M') args s 0 0 (zA ad)) 4 [(0, .ref (ad k)), (1, .int (zI v1)), (2, .int (zI v2)), (3, .int (zI v3))] [] M := by
    intro n
    induction n with
    | zero => intro v1 v2 v3 M hf; exact absurd hf (by unfold f_X0_sumOfValues_b4; simp)
    | succ n ih =>
      intro v1 v2 v3 M hf
      unfold f_X0_sumOfValues_b4 at hf
      refine R_iload_n X 3 dX0_sumOfValues_4 rfl rfl ?_
      refine R_bipush X dX0_sumOfValues_5 (by decide +kernel) ?_
      obtain ⟨hq1, hf⟩ := zgrd hf
      refine R_icmp_ge X 30 ⟨hq1, (by decide)⟩ dX0_sumOfValues_7 (by decide) (fun c5 => ?_) (fun c5 => ?_)
      · have hf := zthen hf c5
        refine R_iload_n X 2 dX0_sumOfValues_30 rfl rfl ?_
        exact R_iret X hr hk0 dX0_sumOfValues_31 hf
      · have hf := zelse hf c5
        refine R_iload_n X 2 dX0_sumOfValues_10 rfl rfl ?_
        refine R_aload_n X 0 dX0_sumOfValues_11 rfl rfl ?_
        have hp2 : k + 4 < zN ∧ lay (k + 4) = (1, 256) := pt_0_3 _ hk.1 hk.2
        refine R_getR X (j := 3) 4 (k + 4) hk rfl inX0 (by decide) rfl rfl (by decide) rfl rfl wf_X0_21 dX0_sumOfValues_12 ?_
        refine R_iload_n X 1 dX0_sumOfValues_15 rfl rfl ?_
        refine R_bipush X dX0_sumOfValues_16 (by decide +kernel) ?_
        refine R_imul X dX0_sumOfValues_18 ?_
        refine R_iload_n X 3 dX0_sumOfValues_19 rfl rfl ?_
        refine R_iadd X dX0_sumOfValues_20 ?_
        obtain ⟨hq3, hf⟩ := zgrd hf
        refine R_iald X hp2 hq3 dX0_sumOfValues_21 ?_
        refine R_iadd X dX0_sumOfValues_22 ?_
        obtain ⟨x4, ex4, hf⟩ := zlt_some hf
        refine R_istore_nX X (lv' := [(2, .int (zI x4)), (0, .ref (ad k)), (1, .int (zI v1)), (3, .int (zI v3))]) ex4 dX0_sumOfValues_23 rfl (by decide) rfl ?_
        refine R_iinc X (lv' := [(3, .int (zI (v3 + 1))), (2, .int (zI x4)), (0, .ref (ad k)), (1, .int (zI v1))]) 3 dX0_sumOfValues_24 rfl (by decide) rfl ?_
        refine R_goto X 4 dX0_sumOfValues_27 (by decide) ?_
        exact R_sub [2, 3, 1, 0] rfl (ih v1 x4 (v3 + 1) M hf)
  unfold f_X0_sumOfValues at hf
  refine (?_ : WW p l e (zrm 0 0) s m args below meth c D cas ad (zA ad) 4 0 0 (MQ below (zQi D cas ad r M') args s 0 0 (zA ad)) 0 [(0, .ref (ad k)), (1, .int (zI v1))] [] M)
  refine R_iconst X dX0_sumOfValues_0 ?_
  refine R_istore_n X (lv' := [(2, .int (zI 0)), (0, .ref (ad k)), (1, .int (zI v1))]) dX0_sumOfValues_1 rfl (by decide) rfl ?_
  refine R_iconst X dX0_sumOfValues_2 ?_
  refine R_istore_n X (lv' := [(3, .int (zI 0)), (2, .int (zI 0)), (0, .ref (ad k)), (1, .int (zI v1))]) dX0_sumOfValues_3 rfl (by decide) rfl ?_
  exact R_sub [2, 3, 1, 0] rfl (hB4 100000 v1 0 0 M hf)
theorem dX8_countOf_0 : decode cX8_countOf 0 = .ok (.iconst 0, 1) := by decide +kernel
theorem dX8_countOf_1 : decode cX8_countOf 1 = .ok (.istore_n 2, 1) := by decide +kernel
theorem dX8_countOf_2 : decode cX8_countOf 2 = .ok (.iconst 0, 1) := by decide +kernel
theorem dX8_countOf_3 : decode cX8_countOf 3 = .ok (.istore_n 3, 1) := by decide +kernel
theorem dX8_countOf_4 : decode cX8_countOf 4 = .ok (.iload_n 3, 1) := by decide +kernel
theorem dX8_countOf_5 : decode cX8_countOf 5 = .ok (.bipush 8, 2) := by decide +kernel
theorem dX8_countOf_7 : decode cX8_countOf 7 = .ok (.if_icmp .ge 21, 3) := by decide +kernel
theorem dX8_countOf_10 : decode cX8_countOf 10 = .ok (.aload_n 0, 1) := by decide +kernel
theorem dX8_countOf_11 : decode cX8_countOf 11 = .ok (.iload_n 3, 1) := by decide +kernel
theorem dX8_countOf_12 : decode cX8_countOf 12 = .ok (.iload_n 1, 1) := by decide +kernel
theorem dX8_countOf_13 : decode cX8_countOf 13 = .ok (.invokevirtual 32, 3) := by decide +kernel
theorem dX8_countOf_16 : decode cX8_countOf 16 = .ok (.ifCond .eq 6, 3) := by decide +kernel
theorem dX8_countOf_19 : decode cX8_countOf 19 = .ok (.iinc 2 1, 3) := by decide +kernel
theorem dX8_countOf_22 : decode cX8_countOf 22 = .ok (.iinc 3 1, 3) := by decide +kernel
theorem dX8_countOf_25 : decode cX8_countOf 25 = .ok (.goto (-21), 3) := by decide +kernel
theorem dX8_countOf_28 : decode cX8_countOf 28 = .ok (.iload_n 2, 1) := by decide +kernel
theorem dX8_countOf_29 : decode cX8_countOf 29 = .ok (.ireturn, 1) := by decide +kernel
set_option maxRecDepth 100000 in
set_option maxHeartbeats 4000000 in
theorem c_X8_countOf (l : Launch) (D : va_G) (cas : Nat → ClassId) (ad : Nat → Nat) (hi : zInj ad) {k : Nat} {v1 : Int} (hk : k < zN ∧ lay k = (0, 8)) {r : Int} {M M' : Mem} (hf : f_X8_countOf k v1 M = some (r, M')) : zMi l D cas ad yX8_countOf cX8_countOf 4 (some .int) 2 43 [.ref (ad k), .int (zI v1)] M r M' := by
  refine zbody (by decide) (Nat.le_of_ble_eq_true rfl) hi ?_
  intro p e s m args below meth c X hr hk0
  have X : zX p s m args c cX8_countOf "ShardTrails$Tracks" 4 D cas ad (zA ad) := X
  have hB22 : ∀ (g4 : Int → Int → Int → Mem → Option (Int × Mem)) (hg4 : ∀ (v1 v2 v3 : Int) (M : Mem), g4 v1 v2 v3 M = some (r, M') → WW p l e (zrm 2 43) s m args below meth c D cas ad (zA ad) 4 0 0 (MQ below (zQi D cas ad r M') args s 0 0 (zA ad)) 4 [(0, .ref (ad k)), (1, .int (zI v1)), (2, .int (zI v2)), (3, .int (zI v3))] [] M) (v1 v2 v3 : Int) (M : Mem), f_X8_countOf_b22 g4 k v1 v2 v3 M = some (r, M') → WW p l e (zrm 2 43) s m args below meth c D cas ad (zA ad) 4 0 0 (MQ below (zQi D cas ad r M') args s 0 0 (zA ad)) 22 [(0, .ref (ad k)), (1, .int (zI v1)), (2, .int (zI v2)), (3, .int (zI v3))] [] M := by
    intro g4 hg4 v1 v2 v3 M hf
    unfold f_X8_countOf_b22 at hf
    refine R_iinc X (lv' := [(3, .int (zI (v3 + 1))), (0, .ref (ad k)), (1, .int (zI v1)), (2, .int (zI v2))]) 3 dX8_countOf_22 rfl (by decide) rfl ?_
    refine R_goto X 4 dX8_countOf_25 (by decide) ?_
    exact R_sub [1, 2, 3, 0] rfl (hg4 v1 v2 (v3 + 1) M hf)
  have hB4 : ∀ (n : Nat) (v1 v2 v3 : Int) (M : Mem), f_X8_countOf_b4 k n v1 v2 v3 M = some (r, M') → WW p l e (zrm 2 43) s m args below meth c D cas ad (zA ad) 4 0 0 (MQ below (zQi D cas ad r M') args s 0 0 (zA ad)) 4 [(0, .ref (ad k)), (1, .int (zI v1)), (2, .int (zI v2)), (3, .int (zI v3))] [] M := by
    intro n
    induction n with
    | zero => intro v1 v2 v3 M hf; exact absurd hf (by unfold f_X8_countOf_b4; simp)
    | succ n ih =>
      intro v1 v2 v3 M hf
      unfold f_X8_countOf_b4 at hf
      refine R_iload_n X 3 dX8_countOf_4 rfl rfl ?_
      refine R_bipush X dX8_countOf_5 (by decide +kernel) ?_
      obtain ⟨hq1, hf⟩ := zgrd hf
      refine R_icmp_ge X 28 ⟨hq1, (by decide)⟩ dX8_countOf_7 (by decide) (fun c7 => ?_) (fun c7 => ?_)
      · have hf := zthen hf c7
        refine R_iload_n X 2 dX8_countOf_28 rfl rfl ?_
        exact R_iret X hr hk0 dX8_countOf_29 hf
      · have hf := zelse hf c7
        refine R_aload_n X 0 dX8_countOf_10 rfl rfl ?_
        refine R_iload_n X 3 dX8_countOf_11 rfl rfl ?_
        refine R_iload_n X 1 dX8_countOf_12 rfl rfl ?_
        obtain ⟨r2, M3, hc4, hf⟩ := zbnd_some hf
        refine R_callVi X (av := [.int (zI v3), .int (zI v1)]) (rest := []) (c_X8_isAt l D cas ad hi hk hc4) zy_X8_isAt hk rfl rfl wm_X8_32 rfl rfl ⟨Nat.le_of_ble_eq_true rfl, Nat.le_of_ble_eq_true rfl⟩ ⟨Nat.le_refl _, Nat.le_refl _⟩ (Nat.le_of_ble_eq_true rfl) dX8_countOf_13 ?_
        obtain ⟨hq5, hf⟩ := zgrd hf
        refine R_if_eq X 22 hq5 dX8_countOf_16 (by decide) (fun c6 => ?_) (fun c6 => ?_)
        · have hf := zthen hf c6
          exact R_sub [0, 1, 2, 3] rfl (hB22 (f_X8_countOf_b4 k n) ih v1 v2 v3 M3 hf)
        · have hf := zelse hf c6
          refine R_iinc X (lv' := [(2, .int (zI (v2 + 1))), (0, .ref (ad k)), (1, .int (zI v1)), (3, .int (zI v3))]) 2 dX8_countOf_19 rfl (by decide) rfl ?_
          exact R_sub [1, 2, 0, 3] rfl (hB22 (f_X8_countOf_b4 k n) ih v1 (v2 + 1) v3 M3 hf)
  unfold f_X8_countOf at hf
  refine (?_ : WW p l e (zrm 2 43) s m args below meth c D cas ad (zA ad) 4 0 0 (MQ below (zQi D cas ad r M') args s 0 0 (zA ad)) 0 [(0, .ref (ad k)), (1, .int (zI v1))] [] M)
  refine R_iconst X dX8_countOf_0 ?_
  refine R_istore_n X (lv' := [(2, .int (zI 0)), (0, .ref (ad k)), (1, .int (zI v1))]) dX8_countOf_1 rfl (by decide) rfl ?_
  refine R_iconst X dX8_countOf_2 ?_
  refine R_istore_n X (lv' := [(3, .int (zI 0)), (2, .int (zI 0)), (0, .ref (ad k)), (1, .int (zI v1))]) dX8_countOf_3 rfl (by decide) rfl ?_
  exact R_sub [2, 3, 1, 0] rfl (hB4 100000 v1 0 0 M hf)
theorem dX9_shard_0 : decode cX9_shard 0 = .ok (.iload_n 1, 1) := by decide +kernel
theorem dX9_shard_1 : decode cX9_shard 1 = .ok (.invokestatic 127, 3) := by decide +kernel
theorem dX9_shard_4 : decode cX9_shard 4 = .ok (.ifCond .ne 5, 3) := by decide +kernel
theorem dX9_shard_7 : decode cX9_shard 7 = .ok (.iconst (-1), 1) := by decide +kernel
theorem dX9_shard_8 : decode cX9_shard 8 = .ok (.ireturn, 1) := by decide +kernel
theorem dX9_shard_9 : decode cX9_shard 9 = .ok (.iload_n 2, 1) := by decide +kernel
theorem dX9_shard_10 : decode cX9_shard 10 = .ok (.tableswitch 147 0 6 #[42, 55, 68, 81, 93, 105, 135], 42) := by decide +kernel
theorem dX9_shard_52 : decode cX9_shard 52 = .ok (.aload_n 0, 1) := by decide +kernel
theorem dX9_shard_53 : decode cX9_shard 53 = .ok (.getfield 12, 3) := by decide +kernel
theorem dX9_shard_56 : decode cX9_shard 56 = .ok (.getfield 130, 3) := by decide +kernel
theorem dX9_shard_59 : decode cX9_shard 59 = .ok (.getfield 134, 3) := by decide +kernel
theorem dX9_shard_62 : decode cX9_shard 62 = .ok (.iload_n 1, 1) := by decide +kernel
theorem dX9_shard_63 : decode cX9_shard 63 = .ok (.iaload, 1) := by decide +kernel
theorem dX9_shard_64 : decode cX9_shard 64 = .ok (.ireturn, 1) := by decide +kernel
theorem dX9_shard_65 : decode cX9_shard 65 = .ok (.aload_n 0, 1) := by decide +kernel
theorem dX9_shard_66 : decode cX9_shard 66 = .ok (.getfield 12, 3) := by decide +kernel
theorem dX9_shard_69 : decode cX9_shard 69 = .ok (.getfield 130, 3) := by decide +kernel
theorem dX9_shard_72 : decode cX9_shard 72 = .ok (.getfield 236, 3) := by decide +kernel
theorem dX9_shard_75 : decode cX9_shard 75 = .ok (.iload_n 1, 1) := by decide +kernel
theorem dX9_shard_76 : decode cX9_shard 76 = .ok (.iaload, 1) := by decide +kernel
theorem dX9_shard_77 : decode cX9_shard 77 = .ok (.ireturn, 1) := by decide +kernel
theorem dX9_shard_78 : decode cX9_shard 78 = .ok (.aload_n 0, 1) := by decide +kernel
theorem dX9_shard_79 : decode cX9_shard 79 = .ok (.getfield 12, 3) := by decide +kernel
theorem dX9_shard_82 : decode cX9_shard 82 = .ok (.getfield 130, 3) := by decide +kernel
theorem dX9_shard_85 : decode cX9_shard 85 = .ok (.getfield 239, 3) := by decide +kernel
theorem dX9_shard_88 : decode cX9_shard 88 = .ok (.iload_n 1, 1) := by decide +kernel
theorem dX9_shard_89 : decode cX9_shard 89 = .ok (.iaload, 1) := by decide +kernel
theorem dX9_shard_90 : decode cX9_shard 90 = .ok (.ireturn, 1) := by decide +kernel
theorem dX9_shard_91 : decode cX9_shard 91 = .ok (.aload_n 0, 1) := by decide +kernel
theorem dX9_shard_92 : decode cX9_shard 92 = .ok (.getfield 12, 3) := by decide +kernel
theorem dX9_shard_95 : decode cX9_shard 95 = .ok (.getfield 198, 3) := by decide +kernel
theorem dX9_shard_98 : decode cX9_shard 98 = .ok (.iload_n 1, 1) := by decide +kernel
theorem dX9_shard_99 : decode cX9_shard 99 = .ok (.invokevirtual 242, 3) := by decide +kernel
theorem dX9_shard_102 : decode cX9_shard 102 = .ok (.ireturn, 1) := by decide +kernel
theorem dX9_shard_103 : decode cX9_shard 103 = .ok (.aload_n 0, 1) := by decide +kernel
theorem dX9_shard_104 : decode cX9_shard 104 = .ok (.getfield 12, 3) := by decide +kernel
theorem dX9_shard_107 : decode cX9_shard 107 = .ok (.getfield 130, 3) := by decide +kernel
theorem dX9_shard_110 : decode cX9_shard 110 = .ok (.iload_n 1, 1) := by decide +kernel
theorem dX9_shard_111 : decode cX9_shard 111 = .ok (.invokevirtual 245, 3) := by decide +kernel
theorem dX9_shard_114 : decode cX9_shard 114 = .ok (.ireturn, 1) := by decide +kernel
theorem dX9_shard_115 : decode cX9_shard 115 = .ok (.aload_n 0, 1) := by decide +kernel
theorem dX9_shard_116 : decode cX9_shard 116 = .ok (.getfield 12, 3) := by decide +kernel
theorem dX9_shard_119 : decode cX9_shard 119 = .ok (.getfield 47, 3) := by decide +kernel
theorem dX9_shard_122 : decode cX9_shard 122 = .ok (.aload_n 0, 1) := by decide +kernel
theorem dX9_shard_123 : decode cX9_shard 123 = .ok (.getfield 12, 3) := by decide +kernel
theorem dX9_shard_126 : decode cX9_shard 126 = .ok (.getfield 130, 3) := by decide +kernel
theorem dX9_shard_129 : decode cX9_shard 129 = .ok (.getfield 134, 3) := by decide +kernel
theorem dX9_shard_132 : decode cX9_shard 132 = .ok (.iload_n 1, 1) := by decide +kernel
theorem dX9_shard_133 : decode cX9_shard 133 = .ok (.iaload, 1) := by decide +kernel
theorem dX9_shard_134 : decode cX9_shard 134 = .ok (.aload_n 0, 1) := by decide +kernel
theorem dX9_shard_135 : decode cX9_shard 135 = .ok (.getfield 12, 3) := by decide +kernel
theorem dX9_shard_138 : decode cX9_shard 138 = .ok (.invokevirtual 207, 3) := by decide +kernel
theorem dX9_shard_141 : decode cX9_shard 141 = .ok (.invokevirtual 248, 3) := by decide +kernel
theorem dX9_shard_144 : decode cX9_shard 144 = .ok (.ireturn, 1) := by decide +kernel
theorem dX9_shard_145 : decode cX9_shard 145 = .ok (.aload_n 0, 1) := by decide +kernel
theorem dX9_shard_146 : decode cX9_shard 146 = .ok (.getfield 12, 3) := by decide +kernel
theorem dX9_shard_149 : decode cX9_shard 149 = .ok (.getfield 130, 3) := by decide +kernel
theorem dX9_shard_152 : decode cX9_shard 152 = .ok (.iload_n 1, 1) := by decide +kernel
theorem dX9_shard_153 : decode cX9_shard 153 = .ok (.invokevirtual 251, 3) := by decide +kernel
theorem dX9_shard_156 : decode cX9_shard 156 = .ok (.ireturn, 1) := by decide +kernel
theorem dX9_shard_157 : decode cX9_shard 157 = .ok (.bipush (-2), 2) := by decide +kernel
theorem dX9_shard_159 : decode cX9_shard 159 = .ok (.ireturn, 1) := by decide +kernel
set_option maxRecDepth 100000 in
set_option maxHeartbeats 4000000 in
theorem c_X9_shard (l : Launch) (D : va_G) (cas : Nat → ClassId) (ad : Nat → Nat) (hi : zInj ad) {v1 : Int} {v2 : Int}  {r : Int} {M M' : Mem} (hf : f_X9_shard v1 v2 M = some (r, M')) : zMi l D cas ad yX9_shard cX9_shard 3 (some .int) 3 68 [.ref (ad 0), .int (zI v1), .int (zI v2)] M r M' := by
  refine zbody (by decide) (Nat.le_of_ble_eq_true rfl) hi ?_
  intro p e s m args below meth c X hr hk0
  have X : zX p s m args c cX9_shard "ShardTrails" 3 D cas ad (zA ad) := X
  unfold f_X9_shard at hf
  refine (?_ : WW p l e (zrm 3 68) s m args below meth c D cas ad (zA ad) 3 0 0 (MQ below (zQi D cas ad r M') args s 0 0 (zA ad)) 0 [(0, .ref (ad 0)), (1, .int (zI v1)), (2, .int (zI v2))] [] M)
  refine R_iload_n X 1 dX9_shard_0 rfl rfl ?_
  obtain ⟨r1, M2, hc3, hf⟩ := zbnd_some hf
  refine R_callSi X (av := [.int (zI v1)]) (rest := []) (c_X9_isShard l D cas ad hi hc3) zy_X9_isShard wm_X9_127 rfl rfl ⟨Nat.le_of_ble_eq_true rfl, Nat.le_of_ble_eq_true rfl⟩ ⟨Nat.le_refl _, Nat.le_refl _⟩ (Nat.le_of_ble_eq_true rfl) dX9_shard_1 ?_
  obtain ⟨hq4, hf⟩ := zgrd hf
  refine R_if_ne X 9 hq4 dX9_shard_4 (by decide) (fun c32 => ?_) (fun c32 => ?_)
  · have hf := zelse hf c32
    refine R_iload_n X 2 dX9_shard_9 rfl rfl ?_
    obtain ⟨hq5, hf⟩ := zgrd hf
    by_cases c7 : v2 = 0
    · have hf := zthen hf c7
      refine R_tableIn X (o := 42) 52 c7 dX9_shard_10 (by decide) (by decide) (by decide) (by decide +kernel) (by decide) ?_
      refine R_aload_n X 0 dX9_shard_52 rfl rfl ?_
      refine R_getR X (j := 0) 1 1 lc_0 rfl inX9 (by decide) rfl rfl (by decide) rfl rfl wf_X9_12 dX9_shard_53 ?_
      refine R_getR X (j := 7) 13 14 lc_1 rfl inX7 (by decide) rfl rfl (by decide) rfl rfl wf_X9_130 dX9_shard_56 ?_
      refine R_getR X (j := 0) 1 15 lc_14 rfl inX0 (by decide) rfl rfl (by decide) rfl rfl wf_X9_134 dX9_shard_59 ?_
      refine R_iload_n X 1 dX9_shard_62 rfl rfl ?_
      obtain ⟨hq6, hf⟩ := zgrd hf
      refine R_iald X lc_15 hq6 dX9_shard_63 ?_
      exact R_iret X hr hk0 dX9_shard_64 hf
    have hf := zelse hf c7
    by_cases c9 : v2 = 1
    · have hf := zthen hf c9
      refine R_tableIn X (o := 55) 65 c9 dX9_shard_10 (by decide) (by decide) (by decide) (by decide +kernel) (by decide) ?_
      refine R_aload_n X 0 dX9_shard_65 rfl rfl ?_
      refine R_getR X (j := 0) 1 1 lc_0 rfl inX9 (by decide) rfl rfl (by decide) rfl rfl wf_X9_12 dX9_shard_66 ?_
      refine R_getR X (j := 7) 13 14 lc_1 rfl inX7 (by decide) rfl rfl (by decide) rfl rfl wf_X9_130 dX9_shard_69 ?_
      refine R_getR X (j := 1) 2 16 lc_14 rfl inX0 (by decide) rfl rfl (by decide) rfl rfl wf_X9_236 dX9_shard_72 ?_
      refine R_iload_n X 1 dX9_shard_75 rfl rfl ?_
      obtain ⟨hq8, hf⟩ := zgrd hf
      refine R_iald X lc_16 hq8 dX9_shard_76 ?_
      exact R_iret X hr hk0 dX9_shard_77 hf
    have hf := zelse hf c9
    by_cases c11 : v2 = 2
    · have hf := zthen hf c11
      refine R_tableIn X (o := 68) 78 c11 dX9_shard_10 (by decide) (by decide) (by decide) (by decide +kernel) (by decide) ?_
      refine R_aload_n X 0 dX9_shard_78 rfl rfl ?_
      refine R_getR X (j := 0) 1 1 lc_0 rfl inX9 (by decide) rfl rfl (by decide) rfl rfl wf_X9_12 dX9_shard_79 ?_
      refine R_getR X (j := 7) 13 14 lc_1 rfl inX7 (by decide) rfl rfl (by decide) rfl rfl wf_X9_130 dX9_shard_82 ?_
      refine R_getR X (j := 2) 3 17 lc_14 rfl inX0 (by decide) rfl rfl (by decide) rfl rfl wf_X9_239 dX9_shard_85 ?_
      refine R_iload_n X 1 dX9_shard_88 rfl rfl ?_
      obtain ⟨hq10, hf⟩ := zgrd hf
      refine R_iald X lc_17 hq10 dX9_shard_89 ?_
      exact R_iret X hr hk0 dX9_shard_90 hf
    have hf := zelse hf c11
    by_cases c15 : v2 = 3
    · have hf := zthen hf c15
      refine R_tableIn X (o := 81) 91 c15 dX9_shard_10 (by decide) (by decide) (by decide) (by decide +kernel) (by decide) ?_
      refine R_aload_n X 0 dX9_shard_91 rfl rfl ?_
      refine R_getR X (j := 0) 1 1 lc_0 rfl inX9 (by decide) rfl rfl (by decide) rfl rfl wf_X9_12 dX9_shard_92 ?_
      refine R_getR X (j := 6) 10 11 lc_1 rfl inX7 (by decide) rfl rfl (by decide) rfl rfl wf_X9_198 dX9_shard_95 ?_
      refine R_iload_n X 1 dX9_shard_98 rfl rfl ?_
      obtain ⟨r12, M13, hc14, hf⟩ := zbnd_some hf
      refine R_callVi X (av := [.int (zI v1)]) (rest := []) (c_X8_countOf l D cas ad hi lc_11 hc14) zy_X8_countOf lc_11 rfl rfl wm_X9_242 rfl rfl ⟨Nat.le_of_ble_eq_true rfl, Nat.le_of_ble_eq_true rfl⟩ ⟨Nat.le_refl _, Nat.le_refl _⟩ (Nat.le_of_ble_eq_true rfl) dX9_shard_99 ?_
      exact R_iret X hr hk0 dX9_shard_102 hf
    have hf := zelse hf c15
    by_cases c19 : v2 = 4
    · have hf := zthen hf c19
      refine R_tableIn X (o := 93) 103 c19 dX9_shard_10 (by decide) (by decide) (by decide) (by decide +kernel) (by decide) ?_
      refine R_aload_n X 0 dX9_shard_103 rfl rfl ?_
      refine R_getR X (j := 0) 1 1 lc_0 rfl inX9 (by decide) rfl rfl (by decide) rfl rfl wf_X9_12 dX9_shard_104 ?_
      refine R_getR X (j := 7) 13 14 lc_1 rfl inX7 (by decide) rfl rfl (by decide) rfl rfl wf_X9_130 dX9_shard_107 ?_
      refine R_iload_n X 1 dX9_shard_110 rfl rfl ?_
      obtain ⟨r16, M17, hc18, hf⟩ := zbnd_some hf
      refine R_callVi X (av := [.int (zI v1)]) (rest := []) (c_X0_placeByHeat l D cas ad hi lc_14 hc18) zy_X0_placeByHeat lc_14 rfl rfl wm_X9_245 rfl rfl ⟨Nat.le_of_ble_eq_true rfl, Nat.le_of_ble_eq_true rfl⟩ ⟨Nat.le_refl _, Nat.le_refl _⟩ (Nat.le_of_ble_eq_true rfl) dX9_shard_111 ?_
      exact R_iret X hr hk0 dX9_shard_114 hf
    have hf := zelse hf c19
    by_cases c27 : v2 = 5
    · have hf := zthen hf c27
      refine R_tableIn X (o := 105) 115 c27 dX9_shard_10 (by decide) (by decide) (by decide) (by decide +kernel) (by decide) ?_
      refine R_aload_n X 0 dX9_shard_115 rfl rfl ?_
      refine R_getR X (j := 0) 1 1 lc_0 rfl inX9 (by decide) rfl rfl (by decide) rfl rfl wf_X9_12 dX9_shard_116 ?_
      refine R_getR X (j := 5) 3 4 lc_1 rfl inX7 (by decide) rfl rfl (by decide) rfl rfl wf_X9_47 dX9_shard_119 ?_
      refine R_aload_n X 0 dX9_shard_122 rfl rfl ?_
      refine R_getR X (j := 0) 1 1 lc_0 rfl inX9 (by decide) rfl rfl (by decide) rfl rfl wf_X9_12 dX9_shard_123 ?_
      refine R_getR X (j := 7) 13 14 lc_1 rfl inX7 (by decide) rfl rfl (by decide) rfl rfl wf_X9_130 dX9_shard_126 ?_
      refine R_getR X (j := 0) 1 15 lc_14 rfl inX0 (by decide) rfl rfl (by decide) rfl rfl wf_X9_134 dX9_shard_129 ?_
      refine R_iload_n X 1 dX9_shard_132 rfl rfl ?_
      obtain ⟨hq20, hf⟩ := zgrd hf
      refine R_iald X lc_15 hq20 dX9_shard_133 ?_
      refine R_aload_n X 0 dX9_shard_134 rfl rfl ?_
      refine R_getR X (j := 0) 1 1 lc_0 rfl inX9 (by decide) rfl rfl (by decide) rfl rfl wf_X9_12 dX9_shard_135 ?_
      obtain ⟨r21, M22, hc23, hf⟩ := zbnd_some hf
      refine R_callVi X (av := []) (rest := [.int (zI (M2 15 v1.toNat)), .ref (ad 4)]) (c_X7_seasonLatitude l D cas ad hi lc_1 hc23) zy_X7_seasonLatitude lc_1 rfl rfl wm_X9_207 rfl rfl ⟨Nat.le_of_ble_eq_true rfl, Nat.le_of_ble_eq_true rfl⟩ ⟨Nat.le_refl _, Nat.le_refl _⟩ (Nat.le_of_ble_eq_true rfl) dX9_shard_138 ?_
      obtain ⟨r24, M25, hc26, hf⟩ := zbnd_some hf
      refine R_callVi X (av := [.int (zI (M2 15 v1.toNat)), .int (zI r21)]) (rest := []) (c_X2_bestOther l D cas ad hi lc_4 hc26) zy_X2_bestOther lc_4 rfl rfl wm_X9_248 rfl rfl ⟨Nat.le_of_ble_eq_true rfl, Nat.le_of_ble_eq_true rfl⟩ ⟨Nat.le_refl _, Nat.le_refl _⟩ (Nat.le_of_ble_eq_true rfl) dX9_shard_141 ?_
      exact R_iret X hr hk0 dX9_shard_144 hf
    have hf := zelse hf c27
    by_cases c31 : v2 = 6
    · have hf := zthen hf c31
      refine R_tableIn X (o := 135) 145 c31 dX9_shard_10 (by decide) (by decide) (by decide) (by decide +kernel) (by decide) ?_
      refine R_aload_n X 0 dX9_shard_145 rfl rfl ?_
      refine R_getR X (j := 0) 1 1 lc_0 rfl inX9 (by decide) rfl rfl (by decide) rfl rfl wf_X9_12 dX9_shard_146 ?_
      refine R_getR X (j := 7) 13 14 lc_1 rfl inX7 (by decide) rfl rfl (by decide) rfl rfl wf_X9_130 dX9_shard_149 ?_
      refine R_iload_n X 1 dX9_shard_152 rfl rfl ?_
      obtain ⟨r28, M29, hc30, hf⟩ := zbnd_some hf
      refine R_callVi X (av := [.int (zI v1)]) (rest := []) (c_X0_sumOfValues l D cas ad hi lc_14 hc30) zy_X0_sumOfValues lc_14 rfl rfl wm_X9_251 rfl rfl ⟨Nat.le_of_ble_eq_true rfl, Nat.le_of_ble_eq_true rfl⟩ ⟨Nat.le_refl _, Nat.le_refl _⟩ (Nat.le_of_ble_eq_true rfl) dX9_shard_153 ?_
      exact R_iret X hr hk0 dX9_shard_156 hf
    have hf := zelse hf c31
    refine R_tableOut X 157 hq5 dX9_shard_10 (by omega) (by decide) ?_
    refine R_bipush X dX9_shard_157 (by decide +kernel) ?_
    exact R_iret X hr hk0 dX9_shard_159 hf
  · have hf := zthen hf c32
    refine R_iconst X dX9_shard_7 ?_
    exact R_iret X hr hk0 dX9_shard_8 hf
theorem dX9_track_0 : decode cX9_track 0 = .ok (.aload_n 0, 1) := by decide +kernel
theorem dX9_track_1 : decode cX9_track 1 = .ok (.iload_n 1, 1) := by decide +kernel
theorem dX9_track_2 : decode cX9_track 2 = .ok (.invokevirtual 65, 3) := by decide +kernel
theorem dX9_track_5 : decode cX9_track 5 = .ok (.ifCond .eq 10, 3) := by decide +kernel
theorem dX9_track_8 : decode cX9_track 8 = .ok (.iload_n 2, 1) := by decide +kernel
theorem dX9_track_9 : decode cX9_track 9 = .ok (.invokestatic 127, 3) := by decide +kernel
theorem dX9_track_12 : decode cX9_track 12 = .ok (.ifCond .ne 5, 3) := by decide +kernel
theorem dX9_track_15 : decode cX9_track 15 = .ok (.iconst (-1), 1) := by decide +kernel
theorem dX9_track_16 : decode cX9_track 16 = .ok (.ireturn, 1) := by decide +kernel
theorem dX9_track_17 : decode cX9_track 17 = .ok (.iload_n 3, 1) := by decide +kernel
theorem dX9_track_18 : decode cX9_track 18 = .ok (.tableswitch 97 0 2 #[26, 43, 80], 26) := by decide +kernel
theorem dX9_track_44 : decode cX9_track 44 = .ok (.aload_n 0, 1) := by decide +kernel
theorem dX9_track_45 : decode cX9_track 45 = .ok (.getfield 12, 3) := by decide +kernel
theorem dX9_track_48 : decode cX9_track 48 = .ok (.getfield 198, 3) := by decide +kernel
theorem dX9_track_51 : decode cX9_track 51 = .ok (.getfield 220, 3) := by decide +kernel
theorem dX9_track_54 : decode cX9_track 54 = .ok (.iload_n 1, 1) := by decide +kernel
theorem dX9_track_55 : decode cX9_track 55 = .ok (.iload_n 2, 1) := by decide +kernel
theorem dX9_track_56 : decode cX9_track 56 = .ok (.invokestatic 223, 3) := by decide +kernel
theorem dX9_track_59 : decode cX9_track 59 = .ok (.iaload, 1) := by decide +kernel
theorem dX9_track_60 : decode cX9_track 60 = .ok (.ireturn, 1) := by decide +kernel
theorem dX9_track_61 : decode cX9_track 61 = .ok (.aload_n 0, 1) := by decide +kernel
theorem dX9_track_62 : decode cX9_track 62 = .ok (.getfield 12, 3) := by decide +kernel
theorem dX9_track_65 : decode cX9_track 65 = .ok (.getfield 198, 3) := by decide +kernel
theorem dX9_track_68 : decode cX9_track 68 = .ok (.iload_n 1, 1) := by decide +kernel
theorem dX9_track_69 : decode cX9_track 69 = .ok (.iload_n 2, 1) := by decide +kernel
theorem dX9_track_70 : decode cX9_track 70 = .ok (.invokevirtual 226, 3) := by decide +kernel
theorem dX9_track_73 : decode cX9_track 73 = .ok (.ifCond .eq 22, 3) := by decide +kernel
theorem dX9_track_76 : decode cX9_track 76 = .ok (.aload_n 0, 1) := by decide +kernel
theorem dX9_track_77 : decode cX9_track 77 = .ok (.getfield 12, 3) := by decide +kernel
theorem dX9_track_80 : decode cX9_track 80 = .ok (.getfield 198, 3) := by decide +kernel
theorem dX9_track_83 : decode cX9_track 83 = .ok (.getfield 230, 3) := by decide +kernel
theorem dX9_track_86 : decode cX9_track 86 = .ok (.iload_n 1, 1) := by decide +kernel
theorem dX9_track_87 : decode cX9_track 87 = .ok (.iload_n 2, 1) := by decide +kernel
theorem dX9_track_88 : decode cX9_track 88 = .ok (.invokestatic 223, 3) := by decide +kernel
theorem dX9_track_91 : decode cX9_track 91 = .ok (.iaload, 1) := by decide +kernel
theorem dX9_track_92 : decode cX9_track 92 = .ok (.goto 5, 3) := by decide +kernel
theorem dX9_track_95 : decode cX9_track 95 = .ok (.bipush (-5), 2) := by decide +kernel
theorem dX9_track_97 : decode cX9_track 97 = .ok (.ireturn, 1) := by decide +kernel
theorem dX9_track_98 : decode cX9_track 98 = .ok (.aload_n 0, 1) := by decide +kernel
theorem dX9_track_99 : decode cX9_track 99 = .ok (.getfield 12, 3) := by decide +kernel
theorem dX9_track_102 : decode cX9_track 102 = .ok (.getfield 47, 3) := by decide +kernel
theorem dX9_track_105 : decode cX9_track 105 = .ok (.getfield 233, 3) := by decide +kernel
theorem dX9_track_108 : decode cX9_track 108 = .ok (.iload_n 1, 1) := by decide +kernel
theorem dX9_track_109 : decode cX9_track 109 = .ok (.iload_n 2, 1) := by decide +kernel
theorem dX9_track_110 : decode cX9_track 110 = .ok (.invokestatic 223, 3) := by decide +kernel
theorem dX9_track_113 : decode cX9_track 113 = .ok (.iaload, 1) := by decide +kernel
theorem dX9_track_114 : decode cX9_track 114 = .ok (.ireturn, 1) := by decide +kernel
theorem dX9_track_115 : decode cX9_track 115 = .ok (.bipush (-2), 2) := by decide +kernel
theorem dX9_track_117 : decode cX9_track 117 = .ok (.ireturn, 1) := by decide +kernel
set_option maxRecDepth 100000 in
set_option maxHeartbeats 4000000 in
theorem c_X9_track (l : Launch) (D : va_G) (cas : Nat → ClassId) (ad : Nat → Nat) (hi : zInj ad) {v1 : Int} {v2 : Int} {v3 : Int}  {r : Int} {M M' : Mem} (hf : f_X9_track v1 v2 v3 M = some (r, M')) : zMi l D cas ad yX9_track cX9_track 4 (some .int) 2 43 [.ref (ad 0), .int (zI v1), .int (zI v2), .int (zI v3)] M r M' := by
  refine zbody (by decide) (Nat.le_of_ble_eq_true rfl) hi ?_
  intro p e s m args below meth c X hr hk0
  have X : zX p s m args c cX9_track "ShardTrails" 4 D cas ad (zA ad) := X
  have hB15 : ∀ (M : Mem), f_X9_track_b15 M = some (r, M') → WW p l e (zrm 2 43) s m args below meth c D cas ad (zA ad) 4 0 0 (MQ below (zQi D cas ad r M') args s 0 0 (zA ad)) 15 [] [] M := by
    intro M hf
    unfold f_X9_track_b15 at hf
    refine R_iconst X dX9_track_15 ?_
    exact R_iret X hr hk0 dX9_track_16 hf
  have hB97 : ∀ (t1 : Int) (M : Mem), f_X9_track_b97 t1 M = some (r, M') → WW p l e (zrm 2 43) s m args below meth c D cas ad (zA ad) 4 0 0 (MQ below (zQi D cas ad r M') args s 0 0 (zA ad)) 97 [] [.int (zI t1)] M := by
    intro t1 M hf
    unfold f_X9_track_b97 at hf
    exact R_iret X hr hk0 dX9_track_97 hf
  unfold f_X9_track at hf
  refine (?_ : WW p l e (zrm 2 43) s m args below meth c D cas ad (zA ad) 4 0 0 (MQ below (zQi D cas ad r M') args s 0 0 (zA ad)) 0 [(0, .ref (ad 0)), (1, .int (zI v1)), (2, .int (zI v2)), (3, .int (zI v3))] [] M)
  refine R_aload_n X 0 dX9_track_0 rfl rfl ?_
  refine R_iload_n X 1 dX9_track_1 rfl rfl ?_
  obtain ⟨r1, M2, hc3, hf⟩ := zbnd_some hf
  refine R_callVi X (av := [.int (zI v1)]) (rest := []) (c_X9_isPasture l D cas ad hi hc3) zy_X9_isPasture lc_0 rfl rfl wm_X9_65 rfl rfl ⟨Nat.le_of_ble_eq_true rfl, Nat.le_of_ble_eq_true rfl⟩ ⟨Nat.le_refl _, Nat.le_refl _⟩ (Nat.le_of_ble_eq_true rfl) dX9_track_2 ?_
  obtain ⟨hq4, hf⟩ := zgrd hf
  refine R_if_eq X 15 hq4 dX9_track_5 (by decide) (fun c31 => ?_) (fun c31 => ?_)
  · have hf := zthen hf c31
    exact R_sub [] rfl (hB15 M2 hf)
  · have hf := zelse hf c31
    refine R_iload_n X 2 dX9_track_8 rfl rfl ?_
    obtain ⟨r5, M6, hc7, hf⟩ := zbnd_some hf
    refine R_callSi X (av := [.int (zI v2)]) (rest := []) (c_X9_isShard l D cas ad hi hc7) zy_X9_isShard wm_X9_127 rfl rfl ⟨Nat.le_of_ble_eq_true rfl, Nat.le_of_ble_eq_true rfl⟩ ⟨Nat.le_refl _, Nat.le_refl _⟩ (Nat.le_of_ble_eq_true rfl) dX9_track_9 ?_
    obtain ⟨hq8, hf⟩ := zgrd hf
    refine R_if_ne X 17 hq8 dX9_track_12 (by decide) (fun c30 => ?_) (fun c30 => ?_)
    · have hf := zelse hf c30
      refine R_iload_n X 3 dX9_track_17 rfl rfl ?_
      obtain ⟨hq9, hf⟩ := zgrd hf
      by_cases c14 : v3 = 0
      · have hf := zthen hf c14
        refine R_tableIn X (o := 26) 44 c14 dX9_track_18 (by decide) (by decide) (by decide) (by decide +kernel) (by decide) ?_
        refine R_aload_n X 0 dX9_track_44 rfl rfl ?_
        refine R_getR X (j := 0) 1 1 lc_0 rfl inX9 (by decide) rfl rfl (by decide) rfl rfl wf_X9_12 dX9_track_45 ?_
        refine R_getR X (j := 6) 10 11 lc_1 rfl inX7 (by decide) rfl rfl (by decide) rfl rfl wf_X9_198 dX9_track_48 ?_
        refine R_getR X (j := 0) 1 12 lc_11 rfl inX8 (by decide) rfl rfl (by decide) rfl rfl wf_X9_220 dX9_track_51 ?_
        refine R_iload_n X 1 dX9_track_54 rfl rfl ?_
        refine R_iload_n X 2 dX9_track_55 rfl rfl ?_
        obtain ⟨r10, M11, hc12, hf⟩ := zbnd_some hf
        refine R_callSi X (av := [.int (zI v1), .int (zI v2)]) (rest := [.ref (ad 12)]) (c_X9_cell l D cas ad hi hc12) zy_X9_cell wm_X9_223 rfl rfl ⟨Nat.le_of_ble_eq_true rfl, Nat.le_of_ble_eq_true rfl⟩ ⟨Nat.le_refl _, Nat.le_refl _⟩ (Nat.le_of_ble_eq_true rfl) dX9_track_56 ?_
        obtain ⟨hq13, hf⟩ := zgrd hf
        refine R_iald X lc_12 hq13 dX9_track_59 ?_
        exact R_iret X hr hk0 dX9_track_60 hf
      have hf := zelse hf c14
      by_cases c24 : v3 = 1
      · have hf := zthen hf c24
        refine R_tableIn X (o := 43) 61 c24 dX9_track_18 (by decide) (by decide) (by decide) (by decide +kernel) (by decide) ?_
        refine R_aload_n X 0 dX9_track_61 rfl rfl ?_
        refine R_getR X (j := 0) 1 1 lc_0 rfl inX9 (by decide) rfl rfl (by decide) rfl rfl wf_X9_12 dX9_track_62 ?_
        refine R_getR X (j := 6) 10 11 lc_1 rfl inX7 (by decide) rfl rfl (by decide) rfl rfl wf_X9_198 dX9_track_65 ?_
        refine R_iload_n X 1 dX9_track_68 rfl rfl ?_
        refine R_iload_n X 2 dX9_track_69 rfl rfl ?_
        obtain ⟨r15, M16, hc17, hf⟩ := zbnd_some hf
        refine R_callVi X (av := [.int (zI v1), .int (zI v2)]) (rest := []) (c_X8_isAt l D cas ad hi lc_11 hc17) zy_X8_isAt lc_11 rfl rfl wm_X9_226 rfl rfl ⟨Nat.le_of_ble_eq_true rfl, Nat.le_of_ble_eq_true rfl⟩ ⟨Nat.le_refl _, Nat.le_refl _⟩ (Nat.le_of_ble_eq_true rfl) dX9_track_70 ?_
        obtain ⟨hq18, hf⟩ := zgrd hf
        refine R_if_eq X 95 hq18 dX9_track_73 (by decide) (fun c23 => ?_) (fun c23 => ?_)
        · have hf := zthen hf c23
          refine R_bipush X dX9_track_95 (by decide +kernel) ?_
          exact R_sub [] rfl (hB97 (-5) M16 hf)
        · have hf := zelse hf c23
          refine R_aload_n X 0 dX9_track_76 rfl rfl ?_
          refine R_getR X (j := 0) 1 1 lc_0 rfl inX9 (by decide) rfl rfl (by decide) rfl rfl wf_X9_12 dX9_track_77 ?_
          refine R_getR X (j := 6) 10 11 lc_1 rfl inX7 (by decide) rfl rfl (by decide) rfl rfl wf_X9_198 dX9_track_80 ?_
          refine R_getR X (j := 1) 2 13 lc_11 rfl inX8 (by decide) rfl rfl (by decide) rfl rfl wf_X9_230 dX9_track_83 ?_
          refine R_iload_n X 1 dX9_track_86 rfl rfl ?_
          refine R_iload_n X 2 dX9_track_87 rfl rfl ?_
          obtain ⟨r19, M20, hc21, hf⟩ := zbnd_some hf
          refine R_callSi X (av := [.int (zI v1), .int (zI v2)]) (rest := [.ref (ad 13)]) (c_X9_cell l D cas ad hi hc21) zy_X9_cell wm_X9_223 rfl rfl ⟨Nat.le_of_ble_eq_true rfl, Nat.le_of_ble_eq_true rfl⟩ ⟨Nat.le_refl _, Nat.le_refl _⟩ (Nat.le_of_ble_eq_true rfl) dX9_track_88 ?_
          obtain ⟨hq22, hf⟩ := zgrd hf
          refine R_iald X lc_13 hq22 dX9_track_91 ?_
          refine R_goto X 97 dX9_track_92 (by decide) ?_
          exact R_sub [] rfl (hB97 (M20 13 r19.toNat) M20 hf)
      have hf := zelse hf c24
      by_cases c29 : v3 = 2
      · have hf := zthen hf c29
        refine R_tableIn X (o := 80) 98 c29 dX9_track_18 (by decide) (by decide) (by decide) (by decide +kernel) (by decide) ?_
        refine R_aload_n X 0 dX9_track_98 rfl rfl ?_
        refine R_getR X (j := 0) 1 1 lc_0 rfl inX9 (by decide) rfl rfl (by decide) rfl rfl wf_X9_12 dX9_track_99 ?_
        refine R_getR X (j := 5) 3 4 lc_1 rfl inX7 (by decide) rfl rfl (by decide) rfl rfl wf_X9_47 dX9_track_102 ?_
        refine R_getR X (j := 6) 6 10 lc_4 rfl inX2 (by decide) rfl rfl (by decide) rfl rfl wf_X9_233 dX9_track_105 ?_
        refine R_iload_n X 1 dX9_track_108 rfl rfl ?_
        refine R_iload_n X 2 dX9_track_109 rfl rfl ?_
        obtain ⟨r25, M26, hc27, hf⟩ := zbnd_some hf
        refine R_callSi X (av := [.int (zI v1), .int (zI v2)]) (rest := [.ref (ad 10)]) (c_X9_cell l D cas ad hi hc27) zy_X9_cell wm_X9_223 rfl rfl ⟨Nat.le_of_ble_eq_true rfl, Nat.le_of_ble_eq_true rfl⟩ ⟨Nat.le_refl _, Nat.le_refl _⟩ (Nat.le_of_ble_eq_true rfl) dX9_track_110 ?_
        obtain ⟨hq28, hf⟩ := zgrd hf
        refine R_iald X lc_10 hq28 dX9_track_113 ?_
        exact R_iret X hr hk0 dX9_track_114 hf
      have hf := zelse hf c29
      refine R_tableOut X 115 hq9 dX9_track_18 (by omega) (by decide) ?_
      refine R_bipush X dX9_track_115 (by decide +kernel) ?_
      exact R_iret X hr hk0 dX9_track_117 hf
    · have hf := zthen hf c30
      exact R_sub [] rfl (hB15 M6 hf)
theorem dX1_takeBack_0 : decode cX1_takeBack 0 = .ok (.aload_n 0, 1) := by decide +kernel
theorem dX1_takeBack_1 : decode cX1_takeBack 1 = .ok (.getfield 22, 3) := by decide +kernel
theorem dX1_takeBack_4 : decode cX1_takeBack 4 = .ok (.ifCond .le 33, 3) := by decide +kernel
theorem dX1_takeBack_7 : decode cX1_takeBack 7 = .ok (.aload_n 0, 1) := by decide +kernel
theorem dX1_takeBack_8 : decode cX1_takeBack 8 = .ok (.dup, 1) := by decide +kernel
theorem dX1_takeBack_9 : decode cX1_takeBack 9 = .ok (.getfield 22, 3) := by decide +kernel
theorem dX1_takeBack_12 : decode cX1_takeBack 12 = .ok (.iconst 1, 1) := by decide +kernel
theorem dX1_takeBack_13 : decode cX1_takeBack 13 = .ok (.isub, 1) := by decide +kernel
theorem dX1_takeBack_14 : decode cX1_takeBack 14 = .ok (.putfield 22, 3) := by decide +kernel
theorem dX1_takeBack_17 : decode cX1_takeBack 17 = .ok (.aload_n 1, 1) := by decide +kernel
theorem dX1_takeBack_18 : decode cX1_takeBack 18 = .ok (.aload_n 0, 1) := by decide +kernel
theorem dX1_takeBack_19 : decode cX1_takeBack 19 = .ok (.getfield 11, 3) := by decide +kernel
theorem dX1_takeBack_22 : decode cX1_takeBack 22 = .ok (.aload_n 0, 1) := by decide +kernel
theorem dX1_takeBack_23 : decode cX1_takeBack 23 = .ok (.getfield 18, 3) := by decide +kernel
theorem dX1_takeBack_26 : decode cX1_takeBack 26 = .ok (.aload_n 0, 1) := by decide +kernel
theorem dX1_takeBack_27 : decode cX1_takeBack 27 = .ok (.getfield 22, 3) := by decide +kernel
theorem dX1_takeBack_30 : decode cX1_takeBack 30 = .ok (.iadd, 1) := by decide +kernel
theorem dX1_takeBack_31 : decode cX1_takeBack 31 = .ok (.iconst 4, 1) := by decide +kernel
theorem dX1_takeBack_32 : decode cX1_takeBack 32 = .ok (.irem, 1) := by decide +kernel
theorem dX1_takeBack_33 : decode cX1_takeBack 33 = .ok (.aaload, 1) := by decide +kernel
theorem dX1_takeBack_34 : decode cX1_takeBack 34 = .ok (.invokevirtual 25, 3) := by decide +kernel
theorem dX1_takeBack_37 : decode cX1_takeBack 37 = .ok (.return_, 1) := by decide +kernel
set_option maxRecDepth 100000 in
set_option maxHeartbeats 4000000 in
theorem c_X1_takeBack (l : Launch) (D : va_G) (cas : Nat → ClassId) (ad : Nat → Nat) (hi : zInj ad) {k1 : Nat}  (hk1 : k1 < zN ∧ lay k1 = (0, 7)) {r : Int} {M M' : Mem} (hf : f_X1_takeBack k1 M = some (r, M')) : zMv l D cas ad yX1_takeBack cX1_takeBack 2 4 90 [.ref (ad 88), .ref (ad k1)] M M' := by
  refine zbody (by decide) (Nat.le_of_ble_eq_true rfl) hi ?_
  intro p e s m args below meth c X hr hk0
  have X : zX p s m args c cX1_takeBack "ShardTrails$History" 2 D cas ad (zA ad) := X
  have hB37 : ∀ (M : Mem), f_X1_takeBack_b37 k1 M = some (r, M') → WW p l e (zrm 4 90) s m args below meth c D cas ad (zA ad) 2 0 0 (MQ below (zQv D cas ad M') args s 0 0 (zA ad)) 37 [] [] M := by
    intro M hf
    unfold f_X1_takeBack_b37 at hf
    exact R_vret X hr hk0 dX1_takeBack_37 hf
  unfold f_X1_takeBack at hf
  refine (?_ : WW p l e (zrm 4 90) s m args below meth c D cas ad (zA ad) 2 0 0 (MQ below (zQv D cas ad M') args s 0 0 (zA ad)) 0 [(0, .ref (ad 88)), (1, .ref (ad k1))] [] M)
  refine R_aload_n X 0 dX1_takeBack_0 rfl rfl ?_
  refine R_getI X (j := 0) lc_88 rfl inX1 (by decide) rfl rfl rfl wf_X1_22 dX1_takeBack_1 ?_
  obtain ⟨hq1, hf⟩ := zgrd hf
  refine R_if_le X 37 hq1 dX1_takeBack_4 (by decide) (fun c8 => ?_) (fun c8 => ?_)
  · have hf := zthen hf c8
    exact R_sub [] rfl (hB37 M hf)
  · have hf := zelse hf c8
    refine R_aload_n X 0 dX1_takeBack_7 rfl rfl ?_
    refine R_dup X dX1_takeBack_8 rfl ?_
    refine R_getI X (j := 0) lc_88 rfl inX1 (by decide) rfl rfl rfl wf_X1_22 dX1_takeBack_9 ?_
    refine R_iconst X dX1_takeBack_12 ?_
    refine R_isub X dX1_takeBack_13 ?_
    obtain ⟨M2, eM2, hf⟩ := zlt_some hf
    refine R_put X (j := 0) lc_88 rfl inX1 tyX1_ok nmX1 (by decide) rfl rfl rfl wf_X1_22 rfl (by decide +kernel) (z_nI _) (z_fI _) dX1_takeBack_14 ?_
    refine R_mem eM2 ?_
    refine R_aload_n X 1 dX1_takeBack_17 rfl rfl ?_
    refine R_aload_n X 0 dX1_takeBack_18 rfl rfl ?_
    refine R_getR X (j := 2) 1 89 lc_88 rfl inX1 (by decide) rfl rfl (by decide) rfl rfl wf_X1_11 dX1_takeBack_19 ?_
    refine R_aload_n X 0 dX1_takeBack_22 rfl rfl ?_
    refine R_getI X (j := 1) lc_88 rfl inX1 (by decide) rfl rfl rfl wf_X1_18 dX1_takeBack_23 ?_
    refine R_aload_n X 0 dX1_takeBack_26 rfl rfl ?_
    refine R_getI X (j := 0) lc_88 rfl inX1 (by decide) rfl rfl rfl wf_X1_22 dX1_takeBack_27 ?_
    refine R_iadd X dX1_takeBack_30 ?_
    refine R_iconst X dX1_takeBack_31 ?_
    obtain ⟨hq3, hf⟩ := zgrd hf
    refine R_irem X ⟨⟨hq3, (by decide)⟩, (by decide)⟩ dX1_takeBack_32 ?_
    obtain ⟨hq4, hf⟩ := zgrd hf
    refine R_aald X (90 + 29 * (((M2 88 1) + (M2 88 0)).tmod 4).toNat) lc_89 hq4 rfl dX1_takeBack_33 ?_
    obtain ⟨r5, M6, hc7, hf⟩ := zbnd_some hf
    refine R_callVv X (av := [.ref (ad (90 + 29 * (((M2 88 1) + (M2 88 0)).tmod 4).toNat))]) (rest := []) (c_X7_copyFrom l D cas ad hi hk1 (pt_st hq4) hc7) zy_X7_copyFrom hk1 rfl rfl wm_X1_25 rfl rfl ⟨Nat.le_of_ble_eq_true rfl, Nat.le_of_ble_eq_true rfl⟩ ⟨Nat.le_refl _, Nat.le_refl _⟩ (Nat.le_of_ble_eq_true rfl) dX1_takeBack_34 ?_
    exact R_sub [] rfl (hB37 M6 hf)
theorem dX9_undo_0 : decode cX9_undo 0 = .ok (.aload_n 0, 1) := by decide +kernel
theorem dX9_undo_1 : decode cX9_undo 1 = .ok (.getfield 25, 3) := by decide +kernel
theorem dX9_undo_4 : decode cX9_undo 4 = .ok (.getfield 184, 3) := by decide +kernel
theorem dX9_undo_7 : decode cX9_undo 7 = .ok (.iconst 1, 1) := by decide +kernel
theorem dX9_undo_8 : decode cX9_undo 8 = .ok (.if_icmp .ge 6, 3) := by decide +kernel
theorem dX9_undo_11 : decode cX9_undo 11 = .ok (.bipush (-5), 2) := by decide +kernel
theorem dX9_undo_13 : decode cX9_undo 13 = .ok (.ireturn, 1) := by decide +kernel
theorem dX9_undo_14 : decode cX9_undo 14 = .ok (.aload_n 0, 1) := by decide +kernel
theorem dX9_undo_15 : decode cX9_undo 15 = .ok (.getfield 25, 3) := by decide +kernel
theorem dX9_undo_18 : decode cX9_undo 18 = .ok (.aload_n 0, 1) := by decide +kernel
theorem dX9_undo_19 : decode cX9_undo 19 = .ok (.getfield 12, 3) := by decide +kernel
theorem dX9_undo_22 : decode cX9_undo 22 = .ok (.invokevirtual 185, 3) := by decide +kernel
theorem dX9_undo_25 : decode cX9_undo 25 = .ok (.aload_n 0, 1) := by decide +kernel
theorem dX9_undo_26 : decode cX9_undo 26 = .ok (.getfield 25, 3) := by decide +kernel
theorem dX9_undo_29 : decode cX9_undo 29 = .ok (.getfield 184, 3) := by decide +kernel
theorem dX9_undo_32 : decode cX9_undo 32 = .ok (.ireturn, 1) := by decide +kernel
set_option maxRecDepth 100000 in
set_option maxHeartbeats 4000000 in
theorem c_X9_undo (l : Launch) (D : va_G) (cas : Nat → ClassId) (ad : Nat → Nat) (hi : zInj ad)   {r : Int} {M M' : Mem} (hf : f_X9_undo M = some (r, M')) : zMi l D cas ad yX9_undo cX9_undo 1 (some .int) 5 111 [.ref (ad 0)] M r M' := by
  refine zbody (by decide) (Nat.le_of_ble_eq_true rfl) hi ?_
  intro p e s m args below meth c X hr hk0
  have X : zX p s m args c cX9_undo "ShardTrails" 1 D cas ad (zA ad) := X
  unfold f_X9_undo at hf
  refine (?_ : WW p l e (zrm 5 111) s m args below meth c D cas ad (zA ad) 1 0 0 (MQ below (zQi D cas ad r M') args s 0 0 (zA ad)) 0 [(0, .ref (ad 0))] [] M)
  refine R_aload_n X 0 dX9_undo_0 rfl rfl ?_
  refine R_getR X (j := 3) 88 88 lc_0 rfl inX9 (by decide) rfl rfl (by decide) rfl rfl wf_X9_25 dX9_undo_1 ?_
  refine R_getI X (j := 0) lc_88 rfl inX1 (by decide) rfl rfl rfl wf_X9_184 dX9_undo_4 ?_
  refine R_iconst X dX9_undo_7 ?_
  obtain ⟨hq1, hf⟩ := zgrd hf
  refine R_icmp_ge X 14 ⟨hq1, (by decide)⟩ dX9_undo_8 (by decide) (fun c5 => ?_) (fun c5 => ?_)
  · have hf := zthen hf c5
    refine R_aload_n X 0 dX9_undo_14 rfl rfl ?_
    refine R_getR X (j := 3) 88 88 lc_0 rfl inX9 (by decide) rfl rfl (by decide) rfl rfl wf_X9_25 dX9_undo_15 ?_
    refine R_aload_n X 0 dX9_undo_18 rfl rfl ?_
    refine R_getR X (j := 0) 1 1 lc_0 rfl inX9 (by decide) rfl rfl (by decide) rfl rfl wf_X9_12 dX9_undo_19 ?_
    obtain ⟨r2, M3, hc4, hf⟩ := zbnd_some hf
    refine R_callVv X (av := [.ref (ad 1)]) (rest := []) (c_X1_takeBack l D cas ad hi lc_1 hc4) zy_X1_takeBack lc_88 rfl rfl wm_X9_185 rfl rfl ⟨Nat.le_of_ble_eq_true rfl, Nat.le_of_ble_eq_true rfl⟩ ⟨Nat.le_refl _, Nat.le_refl _⟩ (Nat.le_of_ble_eq_true rfl) dX9_undo_22 ?_
    refine R_aload_n X 0 dX9_undo_25 rfl rfl ?_
    refine R_getR X (j := 3) 88 88 lc_0 rfl inX9 (by decide) rfl rfl (by decide) rfl rfl wf_X9_25 dX9_undo_26 ?_
    refine R_getI X (j := 0) lc_88 rfl inX1 (by decide) rfl rfl rfl wf_X9_184 dX9_undo_29 ?_
    exact R_iret X hr hk0 dX9_undo_32 hf
  · have hf := zelse hf c5
    refine R_bipush X dX9_undo_11 (by decide +kernel) ?_
    exact R_iret X hr hk0 dX9_undo_13 hf
theorem dX9_value_0 : decode cX9_value 0 = .ok (.iload_n 1, 1) := by decide +kernel
theorem dX9_value_1 : decode cX9_value 1 = .ok (.invokestatic 158, 3) := by decide +kernel
theorem dX9_value_4 : decode cX9_value 4 = .ok (.ifCond .eq 18, 3) := by decide +kernel
theorem dX9_value_7 : decode cX9_value 7 = .ok (.aload_n 0, 1) := by decide +kernel
theorem dX9_value_8 : decode cX9_value 8 = .ok (.getfield 12, 3) := by decide +kernel
theorem dX9_value_11 : decode cX9_value 11 = .ok (.getfield 130, 3) := by decide +kernel
theorem dX9_value_14 : decode cX9_value 14 = .ok (.getfield 254, 3) := by decide +kernel
theorem dX9_value_17 : decode cX9_value 17 = .ok (.iload_n 1, 1) := by decide +kernel
theorem dX9_value_18 : decode cX9_value 18 = .ok (.iaload, 1) := by decide +kernel
theorem dX9_value_19 : decode cX9_value 19 = .ok (.goto 4, 3) := by decide +kernel
theorem dX9_value_22 : decode cX9_value 22 = .ok (.iconst (-1), 1) := by decide +kernel
theorem dX9_value_23 : decode cX9_value 23 = .ok (.ireturn, 1) := by decide +kernel
set_option maxRecDepth 100000 in
set_option maxHeartbeats 4000000 in
theorem c_X9_value (l : Launch) (D : va_G) (cas : Nat → ClassId) (ad : Nat → Nat) (hi : zInj ad) {v1 : Int}  {r : Int} {M M' : Mem} (hf : f_X9_value v1 M = some (r, M')) : zMi l D cas ad yX9_value cX9_value 2 (some .int) 2 42 [.ref (ad 0), .int (zI v1)] M r M' := by
  refine zbody (by decide) (Nat.le_of_ble_eq_true rfl) hi ?_
  intro p e s m args below meth c X hr hk0
  have X : zX p s m args c cX9_value "ShardTrails" 2 D cas ad (zA ad) := X
  have hB23 : ∀ (t1 : Int) (M : Mem), f_X9_value_b23 t1 M = some (r, M') → WW p l e (zrm 2 42) s m args below meth c D cas ad (zA ad) 2 0 0 (MQ below (zQi D cas ad r M') args s 0 0 (zA ad)) 23 [] [.int (zI t1)] M := by
    intro t1 M hf
    unfold f_X9_value_b23 at hf
    exact R_iret X hr hk0 dX9_value_23 hf
  unfold f_X9_value at hf
  refine (?_ : WW p l e (zrm 2 42) s m args below meth c D cas ad (zA ad) 2 0 0 (MQ below (zQi D cas ad r M') args s 0 0 (zA ad)) 0 [(0, .ref (ad 0)), (1, .int (zI v1))] [] M)
  refine R_iload_n X 1 dX9_value_0 rfl rfl ?_
  obtain ⟨r1, M2, hc3, hf⟩ := zbnd_some hf
  refine R_callSi X (av := [.int (zI v1)]) (rest := []) (c_X9_isKey l D cas ad hi hc3) zy_X9_isKey wm_X9_158 rfl rfl ⟨Nat.le_of_ble_eq_true rfl, Nat.le_of_ble_eq_true rfl⟩ ⟨Nat.le_refl _, Nat.le_refl _⟩ (Nat.le_of_ble_eq_true rfl) dX9_value_1 ?_
  obtain ⟨hq4, hf⟩ := zgrd hf
  refine R_if_eq X 22 hq4 dX9_value_4 (by decide) (fun c6 => ?_) (fun c6 => ?_)
  · have hf := zthen hf c6
    refine R_iconst X dX9_value_22 ?_
    exact R_sub [] rfl (hB23 (-1) M2 hf)
  · have hf := zelse hf c6
    refine R_aload_n X 0 dX9_value_7 rfl rfl ?_
    refine R_getR X (j := 0) 1 1 lc_0 rfl inX9 (by decide) rfl rfl (by decide) rfl rfl wf_X9_12 dX9_value_8 ?_
    refine R_getR X (j := 7) 13 14 lc_1 rfl inX7 (by decide) rfl rfl (by decide) rfl rfl wf_X9_130 dX9_value_11 ?_
    refine R_getR X (j := 3) 4 18 lc_14 rfl inX0 (by decide) rfl rfl (by decide) rfl rfl wf_X9_254 dX9_value_14 ?_
    refine R_iload_n X 1 dX9_value_17 rfl rfl ?_
    obtain ⟨hq5, hf⟩ := zgrd hf
    refine R_iald X lc_18 hq5 dX9_value_18 ?_
    refine R_goto X 23 dX9_value_19 (by decide) ?_
    exact R_sub [] rfl (hB23 (M2 18 v1.toNat) M2 hf)
theorem dX9_way_0 : decode cX9_way 0 = .ok (.aload_n 0, 1) := by decide +kernel
theorem dX9_way_1 : decode cX9_way 1 = .ok (.iload_n 1, 1) := by decide +kernel
theorem dX9_way_2 : decode cX9_way 2 = .ok (.invokevirtual 155, 3) := by decide +kernel
theorem dX9_way_5 : decode cX9_way 5 = .ok (.ifCond .eq 10, 3) := by decide +kernel
theorem dX9_way_8 : decode cX9_way 8 = .ok (.iload_n 2, 1) := by decide +kernel
theorem dX9_way_9 : decode cX9_way 9 = .ok (.invokestatic 158, 3) := by decide +kernel
theorem dX9_way_12 : decode cX9_way 12 = .ok (.ifCond .ne 5, 3) := by decide +kernel
theorem dX9_way_15 : decode cX9_way 15 = .ok (.iconst (-1), 1) := by decide +kernel
theorem dX9_way_16 : decode cX9_way 16 = .ok (.ireturn, 1) := by decide +kernel
theorem dX9_way_17 : decode cX9_way 17 = .ok (.iload_n 3, 1) := by decide +kernel
theorem dX9_way_18 : decode cX9_way 18 = .ok (.ifCond .ge 6, 3) := by decide +kernel
theorem dX9_way_21 : decode cX9_way 21 = .ok (.bipush (-2), 2) := by decide +kernel
theorem dX9_way_23 : decode cX9_way 23 = .ok (.ireturn, 1) := by decide +kernel
theorem dX9_way_24 : decode cX9_way 24 = .ok (.aload_n 0, 1) := by decide +kernel
theorem dX9_way_25 : decode cX9_way 25 = .ok (.getfield 32, 3) := by decide +kernel
theorem dX9_way_28 : decode cX9_way 28 = .ok (.aload_n 0, 1) := by decide +kernel
theorem dX9_way_29 : decode cX9_way 29 = .ok (.getfield 12, 3) := by decide +kernel
theorem dX9_way_32 : decode cX9_way 32 = .ok (.iload_n 1, 1) := by decide +kernel
theorem dX9_way_33 : decode cX9_way 33 = .ok (.iload_n 2, 1) := by decide +kernel
theorem dX9_way_34 : decode cX9_way 34 = .ok (.bipush 16, 2) := by decide +kernel
theorem dX9_way_36 : decode cX9_way 36 = .ok (.idiv, 1) := by decide +kernel
theorem dX9_way_37 : decode cX9_way 37 = .ok (.invokevirtual 273, 3) := by decide +kernel
theorem dX9_way_40 : decode cX9_way 40 = .ok (.iload_n 3, 1) := by decide +kernel
theorem dX9_way_41 : decode cX9_way 41 = .ok (.aload_n 0, 1) := by decide +kernel
theorem dX9_way_42 : decode cX9_way 42 = .ok (.getfield 32, 3) := by decide +kernel
theorem dX9_way_45 : decode cX9_way 45 = .ok (.getfield 291, 3) := by decide +kernel
theorem dX9_way_48 : decode cX9_way 48 = .ok (.if_icmp .ge 15, 3) := by decide +kernel
theorem dX9_way_51 : decode cX9_way 51 = .ok (.aload_n 0, 1) := by decide +kernel
theorem dX9_way_52 : decode cX9_way 52 = .ok (.getfield 32, 3) := by decide +kernel
theorem dX9_way_55 : decode cX9_way 55 = .ok (.getfield 292, 3) := by decide +kernel
theorem dX9_way_58 : decode cX9_way 58 = .ok (.iload_n 3, 1) := by decide +kernel
theorem dX9_way_59 : decode cX9_way 59 = .ok (.iaload, 1) := by decide +kernel
theorem dX9_way_60 : decode cX9_way 60 = .ok (.goto 5, 3) := by decide +kernel
theorem dX9_way_63 : decode cX9_way 63 = .ok (.bipush (-5), 2) := by decide +kernel
theorem dX9_way_65 : decode cX9_way 65 = .ok (.ireturn, 1) := by decide +kernel
set_option maxRecDepth 100000 in
set_option maxHeartbeats 4000000 in
theorem c_X9_way (l : Launch) (D : va_G) (cas : Nat → ClassId) (ad : Nat → Nat) (hi : zInj ad) {v1 : Int} {v2 : Int} {v3 : Int}  {r : Int} {M M' : Mem} (hf : f_X9_way v1 v2 v3 M = some (r, M')) : zMi l D cas ad yX9_way cX9_way 4 (some .int) 5 120 [.ref (ad 0), .int (zI v1), .int (zI v2), .int (zI v3)] M r M' := by
  refine zbody (by decide) (Nat.le_of_ble_eq_true rfl) hi ?_
  intro p e s m args below meth c X hr hk0
  have X : zX p s m args c cX9_way "ShardTrails" 4 D cas ad (zA ad) := X
  have hB15 : ∀ (M : Mem), f_X9_way_b15 M = some (r, M') → WW p l e (zrm 5 120) s m args below meth c D cas ad (zA ad) 4 0 0 (MQ below (zQi D cas ad r M') args s 0 0 (zA ad)) 15 [] [] M := by
    intro M hf
    unfold f_X9_way_b15 at hf
    refine R_iconst X dX9_way_15 ?_
    exact R_iret X hr hk0 dX9_way_16 hf
  have hB65 : ∀ (t1 : Int) (M : Mem), f_X9_way_b65 t1 M = some (r, M') → WW p l e (zrm 5 120) s m args below meth c D cas ad (zA ad) 4 0 0 (MQ below (zQi D cas ad r M') args s 0 0 (zA ad)) 65 [] [.int (zI t1)] M := by
    intro t1 M hf
    unfold f_X9_way_b65 at hf
    exact R_iret X hr hk0 dX9_way_65 hf
  unfold f_X9_way at hf
  refine (?_ : WW p l e (zrm 5 120) s m args below meth c D cas ad (zA ad) 4 0 0 (MQ below (zQi D cas ad r M') args s 0 0 (zA ad)) 0 [(0, .ref (ad 0)), (1, .int (zI v1)), (2, .int (zI v2)), (3, .int (zI v3))] [] M)
  refine R_aload_n X 0 dX9_way_0 rfl rfl ?_
  refine R_iload_n X 1 dX9_way_1 rfl rfl ?_
  obtain ⟨r1, M2, hc3, hf⟩ := zbnd_some hf
  refine R_callVi X (av := [.int (zI v1)]) (rest := []) (c_X9_isReader l D cas ad hi hc3) zy_X9_isReader lc_0 rfl rfl wm_X9_155 rfl rfl ⟨Nat.le_of_ble_eq_true rfl, Nat.le_of_ble_eq_true rfl⟩ ⟨Nat.le_refl _, Nat.le_refl _⟩ (Nat.le_of_ble_eq_true rfl) dX9_way_2 ?_
  obtain ⟨hq4, hf⟩ := zgrd hf
  refine R_if_eq X 15 hq4 dX9_way_5 (by decide) (fun c19 => ?_) (fun c19 => ?_)
  · have hf := zthen hf c19
    exact R_sub [] rfl (hB15 M2 hf)
  · have hf := zelse hf c19
    refine R_iload_n X 2 dX9_way_8 rfl rfl ?_
    obtain ⟨r5, M6, hc7, hf⟩ := zbnd_some hf
    refine R_callSi X (av := [.int (zI v2)]) (rest := []) (c_X9_isKey l D cas ad hi hc7) zy_X9_isKey wm_X9_158 rfl rfl ⟨Nat.le_of_ble_eq_true rfl, Nat.le_of_ble_eq_true rfl⟩ ⟨Nat.le_refl _, Nat.le_refl _⟩ (Nat.le_of_ble_eq_true rfl) dX9_way_9 ?_
    obtain ⟨hq8, hf⟩ := zgrd hf
    refine R_if_ne X 17 hq8 dX9_way_12 (by decide) (fun c18 => ?_) (fun c18 => ?_)
    · have hf := zelse hf c18
      refine R_iload_n X 3 dX9_way_17 rfl rfl ?_
      obtain ⟨hq9, hf⟩ := zgrd hf
      refine R_if_ge X 24 hq9 dX9_way_18 (by decide) (fun c17 => ?_) (fun c17 => ?_)
      · have hf := zthen hf c17
        refine R_aload_n X 0 dX9_way_24 rfl rfl ?_
        refine R_getR X (j := 4) 206 206 lc_0 rfl inX9 (by decide) rfl rfl (by decide) rfl rfl wf_X9_32 dX9_way_25 ?_
        refine R_aload_n X 0 dX9_way_28 rfl rfl ?_
        refine R_getR X (j := 0) 1 1 lc_0 rfl inX9 (by decide) rfl rfl (by decide) rfl rfl wf_X9_12 dX9_way_29 ?_
        refine R_iload_n X 1 dX9_way_32 rfl rfl ?_
        refine R_iload_n X 2 dX9_way_33 rfl rfl ?_
        refine R_bipush X dX9_way_34 (by decide +kernel) ?_
        obtain ⟨hq10, hf⟩ := zgrd hf
        refine R_idiv X ⟨⟨hq10, (by decide)⟩, (by decide)⟩ dX9_way_36 ?_
        obtain ⟨r11, M12, hc13, hf⟩ := zbnd_some hf
        refine R_callVv X (av := [.ref (ad 1), .int (zI v1), .int (zI (v2.tdiv 16))]) (rest := []) (c_X6_find l D cas ad hi lc_1 hc13) zy_X6_find lc_206 rfl rfl wm_X9_273 rfl rfl ⟨Nat.le_of_ble_eq_true rfl, Nat.le_of_ble_eq_true rfl⟩ ⟨Nat.le_refl _, Nat.le_refl _⟩ (Nat.le_of_ble_eq_true rfl) dX9_way_37 ?_
        refine R_iload_n X 3 dX9_way_40 rfl rfl ?_
        refine R_aload_n X 0 dX9_way_41 rfl rfl ?_
        refine R_getR X (j := 4) 206 206 lc_0 rfl inX9 (by decide) rfl rfl (by decide) rfl rfl wf_X9_32 dX9_way_42 ?_
        refine R_getI X (j := 5) lc_206 rfl inX6 (by decide) rfl rfl rfl wf_X9_291 dX9_way_45 ?_
        obtain ⟨hq14, hf⟩ := zgrd hf
        refine R_icmp_ge X 63 ⟨hq9, hq14⟩ dX9_way_48 (by decide) (fun c16 => ?_) (fun c16 => ?_)
        · have hf := zthen hf c16
          refine R_bipush X dX9_way_63 (by decide +kernel) ?_
          exact R_sub [] rfl (hB65 (-5) M12 hf)
        · have hf := zelse hf c16
          refine R_aload_n X 0 dX9_way_51 rfl rfl ?_
          refine R_getR X (j := 4) 206 206 lc_0 rfl inX9 (by decide) rfl rfl (by decide) rfl rfl wf_X9_32 dX9_way_52 ?_
          refine R_getR X (j := 6) 1 207 lc_206 rfl inX6 (by decide) rfl rfl (by decide) rfl rfl wf_X9_292 dX9_way_55 ?_
          refine R_iload_n X 3 dX9_way_58 rfl rfl ?_
          obtain ⟨hq15, hf⟩ := zgrd hf
          refine R_iald X lc_207 hq15 dX9_way_59 ?_
          refine R_goto X 65 dX9_way_60 (by decide) ?_
          exact R_sub [] rfl (hB65 (M12 207 v3.toNat) M12 hf)
      · have hf := zelse hf c17
        refine R_bipush X dX9_way_21 (by decide +kernel) ?_
        exact R_iret X hr hk0 dX9_way_23 hf
    · have hf := zthen hf c18
      exact R_sub [] rfl (hB15 M6 hf)
theorem dX9_write_0 : decode cX9_write 0 = .ok (.aload_n 0, 1) := by decide +kernel
theorem dX9_write_1 : decode cX9_write 1 = .ok (.iload_n 1, 1) := by decide +kernel
theorem dX9_write_2 : decode cX9_write 2 = .ok (.invokevirtual 155, 3) := by decide +kernel
theorem dX9_write_5 : decode cX9_write 5 = .ok (.ifCond .eq 10, 3) := by decide +kernel
theorem dX9_write_8 : decode cX9_write 8 = .ok (.iload_n 2, 1) := by decide +kernel
theorem dX9_write_9 : decode cX9_write 9 = .ok (.invokestatic 158, 3) := by decide +kernel
theorem dX9_write_12 : decode cX9_write 12 = .ok (.ifCond .ne 5, 3) := by decide +kernel
theorem dX9_write_15 : decode cX9_write 15 = .ok (.iconst (-1), 1) := by decide +kernel
theorem dX9_write_16 : decode cX9_write 16 = .ok (.ireturn, 1) := by decide +kernel
theorem dX9_write_17 : decode cX9_write 17 = .ok (.iload_n 3, 1) := by decide +kernel
theorem dX9_write_18 : decode cX9_write 18 = .ok (.iconst 0, 1) := by decide +kernel
theorem dX9_write_19 : decode cX9_write 19 = .ok (.sipush 9999, 3) := by decide +kernel
theorem dX9_write_22 : decode cX9_write 22 = .ok (.invokestatic 43, 3) := by decide +kernel
theorem dX9_write_25 : decode cX9_write 25 = .ok (.ifCond .ne 6, 3) := by decide +kernel
theorem dX9_write_28 : decode cX9_write 28 = .ok (.bipush (-2), 2) := by decide +kernel
theorem dX9_write_30 : decode cX9_write 30 = .ok (.ireturn, 1) := by decide +kernel
theorem dX9_write_31 : decode cX9_write 31 = .ok (.aload_n 0, 1) := by decide +kernel
theorem dX9_write_32 : decode cX9_write 32 = .ok (.getfield 25, 3) := by decide +kernel
theorem dX9_write_35 : decode cX9_write 35 = .ok (.aload_n 0, 1) := by decide +kernel
theorem dX9_write_36 : decode cX9_write 36 = .ok (.getfield 12, 3) := by decide +kernel
theorem dX9_write_39 : decode cX9_write 39 = .ok (.invokevirtual 57, 3) := by decide +kernel
theorem dX9_write_42 : decode cX9_write 42 = .ok (.aload_n 0, 1) := by decide +kernel
theorem dX9_write_43 : decode cX9_write 43 = .ok (.iload_n 1, 1) := by decide +kernel
theorem dX9_write_44 : decode cX9_write 44 = .ok (.iload_n 2, 1) := by decide +kernel
theorem dX9_write_45 : decode cX9_write 45 = .ok (.iload_n 3, 1) := by decide +kernel
theorem dX9_write_46 : decode cX9_write 46 = .ok (.invokevirtual 161, 3) := by decide +kernel
theorem dX9_write_49 : decode cX9_write 49 = .ok (.ireturn, 1) := by decide +kernel
set_option maxRecDepth 100000 in
set_option maxHeartbeats 4000000 in
theorem c_X9_write (l : Launch) (D : va_G) (cas : Nat → ClassId) (ad : Nat → Nat) (hi : zInj ad) {v1 : Int} {v2 : Int} {v3 : Int}  {r : Int} {M M' : Mem} (hf : f_X9_write v1 v2 v3 M = some (r, M')) : zMi l D cas ad yX9_write cX9_write 4 (some .int) 6 144 [.ref (ad 0), .int (zI v1), .int (zI v2), .int (zI v3)] M r M' := by
  refine zbody (by decide) (Nat.le_of_ble_eq_true rfl) hi ?_
  intro p e s m args below meth c X hr hk0
  have X : zX p s m args c cX9_write "ShardTrails" 4 D cas ad (zA ad) := X
  have hB15 : ∀ (M : Mem), f_X9_write_b15 M = some (r, M') → WW p l e (zrm 6 144) s m args below meth c D cas ad (zA ad) 4 0 0 (MQ below (zQi D cas ad r M') args s 0 0 (zA ad)) 15 [] [] M := by
    intro M hf
    unfold f_X9_write_b15 at hf
    refine R_iconst X dX9_write_15 ?_
    exact R_iret X hr hk0 dX9_write_16 hf
  unfold f_X9_write at hf
  refine (?_ : WW p l e (zrm 6 144) s m args below meth c D cas ad (zA ad) 4 0 0 (MQ below (zQi D cas ad r M') args s 0 0 (zA ad)) 0 [(0, .ref (ad 0)), (1, .int (zI v1)), (2, .int (zI v2)), (3, .int (zI v3))] [] M)
  refine R_aload_n X 0 dX9_write_0 rfl rfl ?_
  refine R_iload_n X 1 dX9_write_1 rfl rfl ?_
  obtain ⟨r1, M2, hc3, hf⟩ := zbnd_some hf
  refine R_callVi X (av := [.int (zI v1)]) (rest := []) (c_X9_isReader l D cas ad hi hc3) zy_X9_isReader lc_0 rfl rfl wm_X9_155 rfl rfl ⟨Nat.le_of_ble_eq_true rfl, Nat.le_of_ble_eq_true rfl⟩ ⟨Nat.le_refl _, Nat.le_refl _⟩ (Nat.le_of_ble_eq_true rfl) dX9_write_2 ?_
  obtain ⟨hq4, hf⟩ := zgrd hf
  refine R_if_eq X 15 hq4 dX9_write_5 (by decide) (fun c21 => ?_) (fun c21 => ?_)
  · have hf := zthen hf c21
    exact R_sub [] rfl (hB15 M2 hf)
  · have hf := zelse hf c21
    refine R_iload_n X 2 dX9_write_8 rfl rfl ?_
    obtain ⟨r5, M6, hc7, hf⟩ := zbnd_some hf
    refine R_callSi X (av := [.int (zI v2)]) (rest := []) (c_X9_isKey l D cas ad hi hc7) zy_X9_isKey wm_X9_158 rfl rfl ⟨Nat.le_of_ble_eq_true rfl, Nat.le_of_ble_eq_true rfl⟩ ⟨Nat.le_refl _, Nat.le_refl _⟩ (Nat.le_of_ble_eq_true rfl) dX9_write_9 ?_
    obtain ⟨hq8, hf⟩ := zgrd hf
    refine R_if_ne X 17 hq8 dX9_write_12 (by decide) (fun c20 => ?_) (fun c20 => ?_)
    · have hf := zelse hf c20
      refine R_iload_n X 3 dX9_write_17 rfl rfl ?_
      refine R_iconst X dX9_write_18 ?_
      refine R_sipush X dX9_write_19 (by decide +kernel) ?_
      obtain ⟨r9, M10, hc11, hf⟩ := zbnd_some hf
      refine R_callSi X (av := [.int (zI v3), .int (zI 0), .int (zI 9999)]) (rest := []) (c_X9_isWithin l D cas ad hi hc11) zy_X9_isWithin wm_X9_43 rfl rfl ⟨Nat.le_of_ble_eq_true rfl, Nat.le_of_ble_eq_true rfl⟩ ⟨Nat.le_refl _, Nat.le_refl _⟩ (Nat.le_of_ble_eq_true rfl) dX9_write_22 ?_
      obtain ⟨hq12, hf⟩ := zgrd hf
      refine R_if_ne X 31 hq12 dX9_write_25 (by decide) (fun c19 => ?_) (fun c19 => ?_)
      · have hf := zelse hf c19
        refine R_aload_n X 0 dX9_write_31 rfl rfl ?_
        refine R_getR X (j := 3) 88 88 lc_0 rfl inX9 (by decide) rfl rfl (by decide) rfl rfl wf_X9_25 dX9_write_32 ?_
        refine R_aload_n X 0 dX9_write_35 rfl rfl ?_
        refine R_getR X (j := 0) 1 1 lc_0 rfl inX9 (by decide) rfl rfl (by decide) rfl rfl wf_X9_12 dX9_write_36 ?_
        obtain ⟨r13, M14, hc15, hf⟩ := zbnd_some hf
        refine R_callVv X (av := [.ref (ad 1)]) (rest := []) (c_X1_store l D cas ad hi lc_1 hc15) zy_X1_store lc_88 rfl rfl wm_X9_57 rfl rfl ⟨Nat.le_of_ble_eq_true rfl, Nat.le_of_ble_eq_true rfl⟩ ⟨Nat.le_refl _, Nat.le_refl _⟩ (Nat.le_of_ble_eq_true rfl) dX9_write_39 ?_
        refine R_aload_n X 0 dX9_write_42 rfl rfl ?_
        refine R_iload_n X 1 dX9_write_43 rfl rfl ?_
        refine R_iload_n X 2 dX9_write_44 rfl rfl ?_
        refine R_iload_n X 3 dX9_write_45 rfl rfl ?_
        obtain ⟨r16, M17, hc18, hf⟩ := zbnd_some hf
        refine R_callVi X (av := [.int (zI v1), .int (zI v2), .int (zI v3)]) (rest := []) (c_X9_serve l D cas ad hi hc18) zy_X9_serve lc_0 rfl rfl wm_X9_161 rfl rfl ⟨Nat.le_of_ble_eq_true rfl, Nat.le_of_ble_eq_true rfl⟩ ⟨Nat.le_refl _, Nat.le_refl _⟩ (Nat.le_of_ble_eq_true rfl) dX9_write_46 ?_
        exact R_iret X hr hk0 dX9_write_49 hf
      · have hf := zthen hf c19
        refine R_bipush X dX9_write_28 (by decide +kernel) ?_
        exact R_iret X hr hk0 dX9_write_30 hf
    · have hf := zthen hf c20
      exact R_sub [] rfl (hB15 M6 hf)
theorem dL_low_0 : decode cL_low 0 = .ok (.iload_n 0, 1) := by decide +kernel
theorem dL_low_1 : decode cL_low 1 = .ok (.ldc 7, 2) := by decide +kernel
theorem dL_low_3 : decode cL_low 3 = .ok (.iand, 1) := by decide +kernel
theorem dL_low_4 : decode cL_low 4 = .ok (.iload_n 1, 1) := by decide +kernel
theorem dL_low_5 : decode cL_low 5 = .ok (.irem, 1) := by decide +kernel
theorem dL_low_6 : decode cL_low 6 = .ok (.ireturn, 1) := by decide +kernel
set_option maxRecDepth 100000 in
set_option maxHeartbeats 4000000 in
theorem c_L_low (l : Launch) (D : va_G) (cas : Nat → ClassId) (ad : Nat → Nat) (hi : zInj ad) {v0 : Int} {v1 : Int}  {r : Int} {M M' : Mem} (hf : f_L_low v0 v1 M = some (r, M')) : zMi l D cas ad yL_low cL_low 2 (some .int) 0 0 [.int (zI v0), .int (zI v1)] M r M' := by
  refine zbody (by decide) (Nat.le_of_ble_eq_true rfl) hi ?_
  intro p e s m args below meth c X hr hk0
  have X : zX p s m args c cL_low "ShardTrailsLaw" 2 D cas ad (zA ad) := X
  unfold f_L_low at hf
  refine (?_ : WW p l e (zrm 0 0) s m args below meth c D cas ad (zA ad) 2 0 0 (MQ below (zQi D cas ad r M') args s 0 0 (zA ad)) 0 [(0, .int (zI v0)), (1, .int (zI v1))] [] M)
  refine R_iload_n X 0 dL_low_0 rfl rfl ?_
  refine R_ldc X (n := 2147483647) wk_L_7 (by decide +kernel) dL_low_1 ?_
  refine R_iand X dL_low_3 ?_
  refine R_iload_n X 1 dL_low_4 rfl rfl ?_
  obtain ⟨hq1, hf⟩ := zgrd hf
  obtain ⟨hq2, hf⟩ := zgrd hf
  obtain ⟨hq3, hf⟩ := zgrd hf
  refine R_irem X ⟨⟨hq1, hq2⟩, hq3⟩ dL_low_5 ?_
  exact R_iret X hr hk0 dL_low_6 hf
theorem dL_acts_0 : decode cL_acts 0 = .ok (.aload_n 0, 1) := by decide +kernel
theorem dL_acts_1 : decode cL_acts 1 = .ok (.iconst 3, 1) := by decide +kernel
theorem dL_acts_2 : decode cL_acts 2 = .ok (.invokevirtual 12, 3) := by decide +kernel
theorem dL_acts_5 : decode cL_acts 5 = .ok (.istore_n 2, 1) := by decide +kernel
theorem dL_acts_6 : decode cL_acts 6 = .ok (.iload_n 1, 1) := by decide +kernel
theorem dL_acts_7 : decode cL_acts 7 = .ok (.iconst 5, 1) := by decide +kernel
theorem dL_acts_8 : decode cL_acts 8 = .ok (.ishr, 1) := by decide +kernel
theorem dL_acts_9 : decode cL_acts 9 = .ok (.iload_n 2, 1) := by decide +kernel
theorem dL_acts_10 : decode cL_acts 10 = .ok (.iconst 1, 1) := by decide +kernel
theorem dL_acts_11 : decode cL_acts 11 = .ok (.iadd, 1) := by decide +kernel
theorem dL_acts_12 : decode cL_acts 12 = .ok (.invokestatic 45, 3) := by decide +kernel
theorem dL_acts_15 : decode cL_acts 15 = .ok (.istore_n 3, 1) := by decide +kernel
theorem dL_acts_16 : decode cL_acts 16 = .ok (.iload_n 1, 1) := by decide +kernel
theorem dL_acts_17 : decode cL_acts 17 = .ok (.bipush 9, 2) := by decide +kernel
theorem dL_acts_19 : decode cL_acts 19 = .ok (.ishr, 1) := by decide +kernel
theorem dL_acts_20 : decode cL_acts 20 = .ok (.bipush 17, 2) := by decide +kernel
theorem dL_acts_22 : decode cL_acts 22 = .ok (.invokestatic 45, 3) := by decide +kernel
theorem dL_acts_25 : decode cL_acts 25 = .ok (.istore 4, 2) := by decide +kernel
theorem dL_acts_27 : decode cL_acts 27 = .ok (.iload_n 1, 1) := by decide +kernel
theorem dL_acts_28 : decode cL_acts 28 = .ok (.bipush 20, 2) := by decide +kernel
theorem dL_acts_30 : decode cL_acts 30 = .ok (.invokestatic 45, 3) := by decide +kernel
theorem dL_acts_33 : decode cL_acts 33 = .ok (.tableswitch 307 0 17 #[87, 127, 144, 165, 182, 187, 193, 214, 236, 241, 253, 253, 253, 267, 267, 267, 267, 275], 87) := by decide +kernel
theorem dL_acts_120 : decode cL_acts 120 = .ok (.aload_n 0, 1) := by decide +kernel
theorem dL_acts_121 : decode cL_acts 121 = .ok (.iload_n 1, 1) := by decide +kernel
theorem dL_acts_122 : decode cL_acts 122 = .ok (.bipush 9, 2) := by decide +kernel
theorem dL_acts_124 : decode cL_acts 124 = .ok (.ishr, 1) := by decide +kernel
theorem dL_acts_125 : decode cL_acts 125 = .ok (.bipush 92, 2) := by decide +kernel
theorem dL_acts_127 : decode cL_acts 127 = .ok (.invokestatic 45, 3) := by decide +kernel
theorem dL_acts_130 : decode cL_acts 130 = .ok (.iconst 1, 1) := by decide +kernel
theorem dL_acts_131 : decode cL_acts 131 = .ok (.iload_n 1, 1) := by decide +kernel
theorem dL_acts_132 : decode cL_acts 132 = .ok (.bipush 16, 2) := by decide +kernel
theorem dL_acts_134 : decode cL_acts 134 = .ok (.ishr, 1) := by decide +kernel
theorem dL_acts_135 : decode cL_acts 135 = .ok (.bipush 17, 2) := by decide +kernel
theorem dL_acts_137 : decode cL_acts 137 = .ok (.invokestatic 45, 3) := by decide +kernel
theorem dL_acts_140 : decode cL_acts 140 = .ok (.iadd, 1) := by decide +kernel
theorem dL_acts_141 : decode cL_acts 141 = .ok (.iload_n 1, 1) := by decide +kernel
theorem dL_acts_142 : decode cL_acts 142 = .ok (.bipush 24, 2) := by decide +kernel
theorem dL_acts_144 : decode cL_acts 144 = .ok (.ishr, 1) := by decide +kernel
theorem dL_acts_145 : decode cL_acts 145 = .ok (.iconst 1, 1) := by decide +kernel
theorem dL_acts_146 : decode cL_acts 146 = .ok (.iand, 1) := by decide +kernel
theorem dL_acts_147 : decode cL_acts 147 = .ok (.iconst 1, 1) := by decide +kernel
theorem dL_acts_148 : decode cL_acts 148 = .ok (.if_icmp .ne 7, 3) := by decide +kernel
theorem dL_acts_151 : decode cL_acts 151 = .ok (.iconst 1, 1) := by decide +kernel
theorem dL_acts_152 : decode cL_acts 152 = .ok (.goto 4, 3) := by decide +kernel
theorem dL_acts_155 : decode cL_acts 155 = .ok (.iconst 0, 1) := by decide +kernel
theorem dL_acts_156 : decode cL_acts 156 = .ok (.invokevirtual 65, 3) := by decide +kernel
theorem dL_acts_159 : decode cL_acts 159 = .ok (.ireturn, 1) := by decide +kernel
theorem dL_acts_160 : decode cL_acts 160 = .ok (.aload_n 0, 1) := by decide +kernel
theorem dL_acts_161 : decode cL_acts 161 = .ok (.iload_n 3, 1) := by decide +kernel
theorem dL_acts_162 : decode cL_acts 162 = .ok (.iconst 1, 1) := by decide +kernel
theorem dL_acts_163 : decode cL_acts 163 = .ok (.iload_n 1, 1) := by decide +kernel
theorem dL_acts_164 : decode cL_acts 164 = .ok (.bipush 9, 2) := by decide +kernel
theorem dL_acts_166 : decode cL_acts 166 = .ok (.ishr, 1) := by decide +kernel
theorem dL_acts_167 : decode cL_acts 167 = .ok (.bipush 17, 2) := by decide +kernel
theorem dL_acts_169 : decode cL_acts 169 = .ok (.invokestatic 45, 3) := by decide +kernel
theorem dL_acts_172 : decode cL_acts 172 = .ok (.iadd, 1) := by decide +kernel
theorem dL_acts_173 : decode cL_acts 173 = .ok (.invokevirtual 69, 3) := by decide +kernel
theorem dL_acts_176 : decode cL_acts 176 = .ok (.ireturn, 1) := by decide +kernel
theorem dL_acts_177 : decode cL_acts 177 = .ok (.aload_n 0, 1) := by decide +kernel
theorem dL_acts_178 : decode cL_acts 178 = .ok (.iload_n 3, 1) := by decide +kernel
theorem dL_acts_179 : decode cL_acts 179 = .ok (.iload_n 1, 1) := by decide +kernel
theorem dL_acts_180 : decode cL_acts 180 = .ok (.bipush 9, 2) := by decide +kernel
theorem dL_acts_182 : decode cL_acts 182 = .ok (.ishr, 1) := by decide +kernel
theorem dL_acts_183 : decode cL_acts 183 = .ok (.iconst 1, 1) := by decide +kernel
theorem dL_acts_184 : decode cL_acts 184 = .ok (.iand, 1) := by decide +kernel
theorem dL_acts_185 : decode cL_acts 185 = .ok (.iconst 1, 1) := by decide +kernel
theorem dL_acts_186 : decode cL_acts 186 = .ok (.if_icmp .ne 7, 3) := by decide +kernel
theorem dL_acts_189 : decode cL_acts 189 = .ok (.iconst 1, 1) := by decide +kernel
theorem dL_acts_190 : decode cL_acts 190 = .ok (.goto 4, 3) := by decide +kernel
theorem dL_acts_193 : decode cL_acts 193 = .ok (.iconst 0, 1) := by decide +kernel
theorem dL_acts_194 : decode cL_acts 194 = .ok (.invokevirtual 72, 3) := by decide +kernel
theorem dL_acts_197 : decode cL_acts 197 = .ok (.ireturn, 1) := by decide +kernel
theorem dL_acts_198 : decode cL_acts 198 = .ok (.aload_n 0, 1) := by decide +kernel
theorem dL_acts_199 : decode cL_acts 199 = .ok (.iload_n 3, 1) := by decide +kernel
theorem dL_acts_200 : decode cL_acts 200 = .ok (.iconst 1, 1) := by decide +kernel
theorem dL_acts_201 : decode cL_acts 201 = .ok (.iload_n 1, 1) := by decide +kernel
theorem dL_acts_202 : decode cL_acts 202 = .ok (.bipush 9, 2) := by decide +kernel
theorem dL_acts_204 : decode cL_acts 204 = .ok (.ishr, 1) := by decide +kernel
theorem dL_acts_205 : decode cL_acts 205 = .ok (.bipush 8, 2) := by decide +kernel
theorem dL_acts_207 : decode cL_acts 207 = .ok (.invokestatic 45, 3) := by decide +kernel
theorem dL_acts_210 : decode cL_acts 210 = .ok (.iadd, 1) := by decide +kernel
theorem dL_acts_211 : decode cL_acts 211 = .ok (.invokevirtual 76, 3) := by decide +kernel
theorem dL_acts_214 : decode cL_acts 214 = .ok (.ireturn, 1) := by decide +kernel
theorem dL_acts_215 : decode cL_acts 215 = .ok (.aload_n 0, 1) := by decide +kernel
theorem dL_acts_216 : decode cL_acts 216 = .ok (.invokevirtual 79, 3) := by decide +kernel
theorem dL_acts_219 : decode cL_acts 219 = .ok (.ireturn, 1) := by decide +kernel
theorem dL_acts_220 : decode cL_acts 220 = .ok (.aload_n 0, 1) := by decide +kernel
theorem dL_acts_221 : decode cL_acts 221 = .ok (.iload_n 3, 1) := by decide +kernel
theorem dL_acts_222 : decode cL_acts 222 = .ok (.invokevirtual 82, 3) := by decide +kernel
theorem dL_acts_225 : decode cL_acts 225 = .ok (.ireturn, 1) := by decide +kernel
theorem dL_acts_226 : decode cL_acts 226 = .ok (.aload_n 0, 1) := by decide +kernel
theorem dL_acts_227 : decode cL_acts 227 = .ok (.iload_n 1, 1) := by decide +kernel
theorem dL_acts_228 : decode cL_acts 228 = .ok (.iconst 5, 1) := by decide +kernel
theorem dL_acts_229 : decode cL_acts 229 = .ok (.ishr, 1) := by decide +kernel
theorem dL_acts_230 : decode cL_acts 230 = .ok (.iconst 5, 1) := by decide +kernel
theorem dL_acts_231 : decode cL_acts 231 = .ok (.invokestatic 45, 3) := by decide +kernel
theorem dL_acts_234 : decode cL_acts 234 = .ok (.iload_n 1, 1) := by decide +kernel
theorem dL_acts_235 : decode cL_acts 235 = .ok (.bipush 9, 2) := by decide +kernel
theorem dL_acts_237 : decode cL_acts 237 = .ok (.ishr, 1) := by decide +kernel
theorem dL_acts_238 : decode cL_acts 238 = .ok (.bipush 92, 2) := by decide +kernel
theorem dL_acts_240 : decode cL_acts 240 = .ok (.invokestatic 45, 3) := by decide +kernel
theorem dL_acts_243 : decode cL_acts 243 = .ok (.invokevirtual 85, 3) := by decide +kernel
theorem dL_acts_246 : decode cL_acts 246 = .ok (.ireturn, 1) := by decide +kernel
theorem dL_acts_247 : decode cL_acts 247 = .ok (.aload_n 0, 1) := by decide +kernel
theorem dL_acts_248 : decode cL_acts 248 = .ok (.iload_n 1, 1) := by decide +kernel
theorem dL_acts_249 : decode cL_acts 249 = .ok (.iconst 5, 1) := by decide +kernel
theorem dL_acts_250 : decode cL_acts 250 = .ok (.ishr, 1) := by decide +kernel
theorem dL_acts_251 : decode cL_acts 251 = .ok (.bipush 7, 2) := by decide +kernel
theorem dL_acts_253 : decode cL_acts 253 = .ok (.invokestatic 45, 3) := by decide +kernel
theorem dL_acts_256 : decode cL_acts 256 = .ok (.iload_n 1, 1) := by decide +kernel
theorem dL_acts_257 : decode cL_acts 257 = .ok (.bipush 9, 2) := by decide +kernel
theorem dL_acts_259 : decode cL_acts 259 = .ok (.ishr, 1) := by decide +kernel
theorem dL_acts_260 : decode cL_acts 260 = .ok (.bipush 32, 2) := by decide +kernel
theorem dL_acts_262 : decode cL_acts 262 = .ok (.invokestatic 45, 3) := by decide +kernel
theorem dL_acts_265 : decode cL_acts 265 = .ok (.invokevirtual 88, 3) := by decide +kernel
theorem dL_acts_268 : decode cL_acts 268 = .ok (.ireturn, 1) := by decide +kernel
theorem dL_acts_269 : decode cL_acts 269 = .ok (.aload_n 0, 1) := by decide +kernel
theorem dL_acts_270 : decode cL_acts 270 = .ok (.invokevirtual 91, 3) := by decide +kernel
theorem dL_acts_273 : decode cL_acts 273 = .ok (.ireturn, 1) := by decide +kernel
theorem dL_acts_274 : decode cL_acts 274 = .ok (.aload_n 0, 1) := by decide +kernel
theorem dL_acts_275 : decode cL_acts 275 = .ok (.iload_n 1, 1) := by decide +kernel
theorem dL_acts_276 : decode cL_acts 276 = .ok (.iconst 5, 1) := by decide +kernel
theorem dL_acts_277 : decode cL_acts 277 = .ok (.ishr, 1) := by decide +kernel
theorem dL_acts_278 : decode cL_acts 278 = .ok (.iconst 4, 1) := by decide +kernel
theorem dL_acts_279 : decode cL_acts 279 = .ok (.invokestatic 45, 3) := by decide +kernel
theorem dL_acts_282 : decode cL_acts 282 = .ok (.invokevirtual 94, 3) := by decide +kernel
theorem dL_acts_285 : decode cL_acts 285 = .ok (.ireturn, 1) := by decide +kernel
theorem dL_acts_286 : decode cL_acts 286 = .ok (.aload_n 0, 1) := by decide +kernel
theorem dL_acts_287 : decode cL_acts 287 = .ok (.iload_n 1, 1) := by decide +kernel
theorem dL_acts_288 : decode cL_acts 288 = .ok (.bipush 9, 2) := by decide +kernel
theorem dL_acts_290 : decode cL_acts 290 = .ok (.ishr, 1) := by decide +kernel
theorem dL_acts_291 : decode cL_acts 291 = .ok (.bipush 6, 2) := by decide +kernel
theorem dL_acts_293 : decode cL_acts 293 = .ok (.invokestatic 45, 3) := by decide +kernel
theorem dL_acts_296 : decode cL_acts 296 = .ok (.invokevirtual 62, 3) := by decide +kernel
theorem dL_acts_299 : decode cL_acts 299 = .ok (.ireturn, 1) := by decide +kernel
theorem dL_acts_300 : decode cL_acts 300 = .ok (.aload_n 0, 1) := by decide +kernel
theorem dL_acts_301 : decode cL_acts 301 = .ok (.iload 4, 2) := by decide +kernel
theorem dL_acts_303 : decode cL_acts 303 = .ok (.iload_n 3, 1) := by decide +kernel
theorem dL_acts_304 : decode cL_acts 304 = .ok (.invokevirtual 97, 3) := by decide +kernel
theorem dL_acts_307 : decode cL_acts 307 = .ok (.ireturn, 1) := by decide +kernel
theorem dL_acts_308 : decode cL_acts 308 = .ok (.aload_n 0, 1) := by decide +kernel
theorem dL_acts_309 : decode cL_acts 309 = .ok (.iload_n 1, 1) := by decide +kernel
theorem dL_acts_310 : decode cL_acts 310 = .ok (.iconst 5, 1) := by decide +kernel
theorem dL_acts_311 : decode cL_acts 311 = .ok (.ishr, 1) := by decide +kernel
theorem dL_acts_312 : decode cL_acts 312 = .ok (.iconst 4, 1) := by decide +kernel
theorem dL_acts_313 : decode cL_acts 313 = .ok (.invokestatic 45, 3) := by decide +kernel
theorem dL_acts_316 : decode cL_acts 316 = .ok (.iload_n 1, 1) := by decide +kernel
theorem dL_acts_317 : decode cL_acts 317 = .ok (.bipush 9, 2) := by decide +kernel
theorem dL_acts_319 : decode cL_acts 319 = .ok (.ishr, 1) := by decide +kernel
theorem dL_acts_320 : decode cL_acts 320 = .ok (.sipush 260, 3) := by decide +kernel
theorem dL_acts_323 : decode cL_acts 323 = .ok (.invokestatic 45, 3) := by decide +kernel
theorem dL_acts_326 : decode cL_acts 326 = .ok (.iload_n 1, 1) := by decide +kernel
theorem dL_acts_327 : decode cL_acts 327 = .ok (.bipush 18, 2) := by decide +kernel
theorem dL_acts_329 : decode cL_acts 329 = .ok (.ishr, 1) := by decide +kernel
theorem dL_acts_330 : decode cL_acts 330 = .ok (.sipush 10001, 3) := by decide +kernel
theorem dL_acts_333 : decode cL_acts 333 = .ok (.invokestatic 45, 3) := by decide +kernel
theorem dL_acts_336 : decode cL_acts 336 = .ok (.invokevirtual 100, 3) := by decide +kernel
theorem dL_acts_339 : decode cL_acts 339 = .ok (.ireturn, 1) := by decide +kernel
theorem dL_acts_340 : decode cL_acts 340 = .ok (.aload_n 0, 1) := by decide +kernel
theorem dL_acts_341 : decode cL_acts 341 = .ok (.iload_n 1, 1) := by decide +kernel
theorem dL_acts_342 : decode cL_acts 342 = .ok (.iconst 5, 1) := by decide +kernel
theorem dL_acts_343 : decode cL_acts 343 = .ok (.ishr, 1) := by decide +kernel
theorem dL_acts_344 : decode cL_acts 344 = .ok (.iconst 4, 1) := by decide +kernel
theorem dL_acts_345 : decode cL_acts 345 = .ok (.invokestatic 45, 3) := by decide +kernel
theorem dL_acts_348 : decode cL_acts 348 = .ok (.iload_n 1, 1) := by decide +kernel
theorem dL_acts_349 : decode cL_acts 349 = .ok (.bipush 9, 2) := by decide +kernel
theorem dL_acts_351 : decode cL_acts 351 = .ok (.ishr, 1) := by decide +kernel
theorem dL_acts_352 : decode cL_acts 352 = .ok (.sipush 256, 3) := by decide +kernel
theorem dL_acts_355 : decode cL_acts 355 = .ok (.invokestatic 45, 3) := by decide +kernel
theorem dL_acts_358 : decode cL_acts 358 = .ok (.invokevirtual 52, 3) := by decide +kernel
theorem dL_acts_361 : decode cL_acts 361 = .ok (.ireturn, 1) := by decide +kernel
set_option maxRecDepth 100000 in
set_option maxHeartbeats 4000000 in
theorem c_L_acts (l : Launch) (D : va_G) (cas : Nat → ClassId) (ad : Nat → Nat) (hi : zInj ad) {v1 : Int}  {r : Int} {M M' : Mem} (hf : f_L_acts v1 M = some (r, M')) : zMi l D cas ad yL_acts cL_acts 5 (some .int) 7 167 [.ref (ad 0), .int (zI v1)] M r M' := by
  refine zbody (by decide) (Nat.le_of_ble_eq_true rfl) hi ?_
  intro p e s m args below meth c X hr hk0
  have X : zX p s m args c cL_acts "ShardTrailsLaw" 5 D cas ad (zA ad) := X
  have hB156 : ∀ (t4 t3 t2 : Int) (M : Mem), f_L_acts_b156 t4 t3 t2 M = some (r, M') → WW p l e (zrm 7 167) s m args below meth c D cas ad (zA ad) 5 0 0 (MQ below (zQi D cas ad r M') args s 0 0 (zA ad)) 156 [] [.int (zI t4), .int (zI t3), .int (zI t2), .ref (ad 0)] M := by
    intro t4 t3 t2 M hf
    unfold f_L_acts_b156 at hf
    obtain ⟨r108, M109, hc110, hf⟩ := zbnd_some hf
    refine R_callVi X (av := [.int (zI t2), .int (zI t3), .int (zI t4)]) (rest := []) (c_X9_addPasture l D cas ad hi hc110) zy_X9_addPasture lc_0 rfl rfl wm_L_65 rfl rfl ⟨Nat.le_of_ble_eq_true rfl, Nat.le_of_ble_eq_true rfl⟩ ⟨Nat.le_refl _, Nat.le_refl _⟩ (Nat.le_of_ble_eq_true rfl) dL_acts_156 ?_
    exact R_iret X hr hk0 dL_acts_159 hf
  have hB194 : ∀ (t3 t2 : Int) (M : Mem), f_L_acts_b194 t3 t2 M = some (r, M') → WW p l e (zrm 7 167) s m args below meth c D cas ad (zA ad) 5 0 0 (MQ below (zQi D cas ad r M') args s 0 0 (zA ad)) 194 [] [.int (zI t3), .int (zI t2), .ref (ad 0)] M := by
    intro t3 t2 M hf
    unfold f_L_acts_b194 at hf
    obtain ⟨r111, M112, hc113, hf⟩ := zbnd_some hf
    refine R_callVi X (av := [.int (zI t2), .int (zI t3)]) (rest := []) (c_X9_setInn l D cas ad hi hc113) zy_X9_setInn lc_0 rfl rfl wm_L_72 rfl rfl ⟨Nat.le_of_ble_eq_true rfl, Nat.le_of_ble_eq_true rfl⟩ ⟨Nat.le_refl _, Nat.le_refl _⟩ (Nat.le_of_ble_eq_true rfl) dL_acts_194 ?_
    exact R_iret X hr hk0 dL_acts_197 hf
  have hB286 : ∀ (v1 : Int) (M : Mem), f_L_acts_b286 v1 M = some (r, M') → WW p l e (zrm 7 167) s m args below meth c D cas ad (zA ad) 5 0 0 (MQ below (zQi D cas ad r M') args s 0 0 (zA ad)) 286 [(0, .ref (ad 0)), (1, .int (zI v1))] [] M := by
    intro v1 M hf
    unfold f_L_acts_b286 at hf
    refine R_aload_n X 0 dL_acts_286 rfl rfl ?_
    refine R_iload_n X 1 dL_acts_287 rfl rfl ?_
    refine R_bipush X dL_acts_288 (by decide +kernel) ?_
    refine R_ishr X dL_acts_290 ?_
    refine R_bipush X dL_acts_291 (by decide +kernel) ?_
    obtain ⟨r114, M115, hc116, hf⟩ := zbnd_some hf
    refine R_callSi X (av := [.int (zI (ishr v1 9)), .int (zI 6)]) (rest := [.ref (ad 0)]) (c_L_low l D cas ad hi hc116) zy_L_low wm_L_45 rfl rfl ⟨Nat.le_of_ble_eq_true rfl, Nat.le_of_ble_eq_true rfl⟩ ⟨Nat.le_refl _, Nat.le_refl _⟩ (Nat.le_of_ble_eq_true rfl) dL_acts_293 ?_
    obtain ⟨r117, M118, hc119, hf⟩ := zbnd_some hf
    refine R_callVi X (av := [.int (zI r114)]) (rest := []) (c_X9_pass l D cas ad hi hc119) zy_X9_pass lc_0 rfl rfl wm_L_62 rfl rfl ⟨Nat.le_of_ble_eq_true rfl, Nat.le_of_ble_eq_true rfl⟩ ⟨Nat.le_refl _, Nat.le_refl _⟩ (Nat.le_of_ble_eq_true rfl) dL_acts_296 ?_
    exact R_iret X hr hk0 dL_acts_299 hf
  have hB300 : ∀ (v3 v4 : Int) (M : Mem), f_L_acts_b300 v3 v4 M = some (r, M') → WW p l e (zrm 7 167) s m args below meth c D cas ad (zA ad) 5 0 0 (MQ below (zQi D cas ad r M') args s 0 0 (zA ad)) 300 [(0, .ref (ad 0)), (3, .int (zI v3)), (4, .int (zI v4))] [] M := by
    intro v3 v4 M hf
    unfold f_L_acts_b300 at hf
    refine R_aload_n X 0 dL_acts_300 rfl rfl ?_
    refine R_iload X 2 dL_acts_301 rfl ?_
    refine R_iload_n X 1 dL_acts_303 rfl rfl ?_
    obtain ⟨r120, M121, hc122, hf⟩ := zbnd_some hf
    refine R_callVi X (av := [.int (zI v4), .int (zI v3)]) (rest := []) (c_X9_move l D cas ad hi hc122) zy_X9_move lc_0 rfl rfl wm_L_97 rfl rfl ⟨Nat.le_of_ble_eq_true rfl, Nat.le_of_ble_eq_true rfl⟩ ⟨Nat.le_refl _, Nat.le_refl _⟩ (Nat.le_of_ble_eq_true rfl) dL_acts_304 ?_
    exact R_iret X hr hk0 dL_acts_307 hf
  unfold f_L_acts at hf
  refine (?_ : WW p l e (zrm 7 167) s m args below meth c D cas ad (zA ad) 5 0 0 (MQ below (zQi D cas ad r M') args s 0 0 (zA ad)) 0 [(0, .ref (ad 0)), (1, .int (zI v1))] [] M)
  refine R_aload_n X 0 dL_acts_0 rfl rfl ?_
  refine R_iconst X dL_acts_1 ?_
  obtain ⟨r1, M2, hc3, hf⟩ := zbnd_some hf
  refine R_callVi X (av := [.int (zI 3)]) (rest := []) (c_X9_count l D cas ad hi hc3) zy_X9_count lc_0 rfl rfl wm_L_12 rfl rfl ⟨Nat.le_of_ble_eq_true rfl, Nat.le_of_ble_eq_true rfl⟩ ⟨Nat.le_refl _, Nat.le_refl _⟩ (Nat.le_of_ble_eq_true rfl) dL_acts_2 ?_
  refine R_istore_n X (lv' := [(2, .int (zI r1)), (0, .ref (ad 0)), (1, .int (zI v1))]) dL_acts_5 rfl (by decide) rfl ?_
  refine R_iload_n X 2 dL_acts_6 rfl rfl ?_
  refine R_iconst X dL_acts_7 ?_
  refine R_ishr X dL_acts_8 ?_
  refine R_iload_n X 0 dL_acts_9 rfl rfl ?_
  refine R_iconst X dL_acts_10 ?_
  refine R_iadd X dL_acts_11 ?_
  obtain ⟨r4, M5, hc6, hf⟩ := zbnd_some hf
  refine R_callSi X (av := [.int (zI (ishr v1 5)), .int (zI (r1 + 1))]) (rest := []) (c_L_low l D cas ad hi hc6) zy_L_low wm_L_45 rfl rfl ⟨Nat.le_of_ble_eq_true rfl, Nat.le_of_ble_eq_true rfl⟩ ⟨Nat.le_refl _, Nat.le_refl _⟩ (Nat.le_of_ble_eq_true rfl) dL_acts_12 ?_
  refine R_istore_n X (lv' := [(3, .int (zI r4)), (2, .int (zI r1)), (0, .ref (ad 0)), (1, .int (zI v1))]) dL_acts_15 rfl (by decide) rfl ?_
  refine R_iload_n X 3 dL_acts_16 rfl rfl ?_
  refine R_bipush X dL_acts_17 (by decide +kernel) ?_
  refine R_ishr X dL_acts_19 ?_
  refine R_bipush X dL_acts_20 (by decide +kernel) ?_
  obtain ⟨r7, M8, hc9, hf⟩ := zbnd_some hf
  refine R_callSi X (av := [.int (zI (ishr v1 9)), .int (zI 17)]) (rest := []) (c_L_low l D cas ad hi hc9) zy_L_low wm_L_45 rfl rfl ⟨Nat.le_of_ble_eq_true rfl, Nat.le_of_ble_eq_true rfl⟩ ⟨Nat.le_refl _, Nat.le_refl _⟩ (Nat.le_of_ble_eq_true rfl) dL_acts_22 ?_
  refine R_istore X (lv' := [(4, .int (zI r7)), (3, .int (zI r4)), (2, .int (zI r1)), (0, .ref (ad 0)), (1, .int (zI v1))]) dL_acts_25 (by decide) rfl ?_
  refine R_iload_n X 4 dL_acts_27 rfl rfl ?_
  refine R_bipush X dL_acts_28 (by decide +kernel) ?_
  obtain ⟨r10, M11, hc12, hf⟩ := zbnd_some hf
  refine R_callSi X (av := [.int (zI v1), .int (zI 20)]) (rest := []) (c_L_low l D cas ad hi hc12) zy_L_low wm_L_45 rfl rfl ⟨Nat.le_of_ble_eq_true rfl, Nat.le_of_ble_eq_true rfl⟩ ⟨Nat.le_refl _, Nat.le_refl _⟩ (Nat.le_of_ble_eq_true rfl) dL_acts_30 ?_
  obtain ⟨hq13, hf⟩ := zgrd hf
  by_cases c22 : r10 = 0
  · have hf := zthen hf c22
    refine R_tableIn X (o := 87) 120 c22 dL_acts_33 (by decide) (by decide) (by decide) (by decide +kernel) (by decide) ?_
    refine R_aload_n X 3 dL_acts_120 rfl rfl ?_
    refine R_iload_n X 4 dL_acts_121 rfl rfl ?_
    refine R_bipush X dL_acts_122 (by decide +kernel) ?_
    refine R_ishr X dL_acts_124 ?_
    refine R_bipush X dL_acts_125 (by decide +kernel) ?_
    obtain ⟨r14, M15, hc16, hf⟩ := zbnd_some hf
    refine R_callSi X (av := [.int (zI (ishr v1 9)), .int (zI 92)]) (rest := [.ref (ad 0)]) (c_L_low l D cas ad hi hc16) zy_L_low wm_L_45 rfl rfl ⟨Nat.le_of_ble_eq_true rfl, Nat.le_of_ble_eq_true rfl⟩ ⟨Nat.le_refl _, Nat.le_refl _⟩ (Nat.le_of_ble_eq_true rfl) dL_acts_127 ?_
    refine R_iconst X dL_acts_130 ?_
    refine R_iload_n X 4 dL_acts_131 rfl rfl ?_
    refine R_bipush X dL_acts_132 (by decide +kernel) ?_
    refine R_ishr X dL_acts_134 ?_
    refine R_bipush X dL_acts_135 (by decide +kernel) ?_
    obtain ⟨r17, M18, hc19, hf⟩ := zbnd_some hf
    refine R_callSi X (av := [.int (zI (ishr v1 16)), .int (zI 17)]) (rest := [.int (zI 1), .int (zI r14), .ref (ad 0)]) (c_L_low l D cas ad hi hc19) zy_L_low wm_L_45 rfl rfl ⟨Nat.le_of_ble_eq_true rfl, Nat.le_of_ble_eq_true rfl⟩ ⟨Nat.le_refl _, Nat.le_refl _⟩ (Nat.le_of_ble_eq_true rfl) dL_acts_137 ?_
    refine R_iadd X dL_acts_140 ?_
    refine R_iload_n X 4 dL_acts_141 rfl rfl ?_
    refine R_bipush X dL_acts_142 (by decide +kernel) ?_
    refine R_ishr X dL_acts_144 ?_
    refine R_iconst X dL_acts_145 ?_
    refine R_iand X dL_acts_146 ?_
    refine R_iconst X dL_acts_147 ?_
    obtain ⟨hq20, hf⟩ := zgrd hf
    refine R_icmp_ne X 155 ⟨hq20, (by decide)⟩ dL_acts_148 (by decide) (fun c21 => ?_) (fun c21 => ?_)
    · have hf := zelse hf c21
      refine R_iconst X dL_acts_155 ?_
      exact R_sub [] rfl (hB156 0 (1 + r17) r14 M18 hf)
    · have hf := zthen hf c21
      refine R_iconst X dL_acts_151 ?_
      refine R_goto X 156 dL_acts_152 (by decide) ?_
      exact R_sub [] rfl (hB156 1 (1 + r17) r14 M18 hf)
  have hf := zelse hf c22
  by_cases c29 : r10 = 1
  · have hf := zthen hf c29
    refine R_tableIn X (o := 127) 160 c29 dL_acts_33 (by decide) (by decide) (by decide) (by decide +kernel) (by decide) ?_
    refine R_aload_n X 3 dL_acts_160 rfl rfl ?_
    refine R_iload_n X 1 dL_acts_161 rfl rfl ?_
    refine R_iconst X dL_acts_162 ?_
    refine R_iload_n X 4 dL_acts_163 rfl rfl ?_
    refine R_bipush X dL_acts_164 (by decide +kernel) ?_
    refine R_ishr X dL_acts_166 ?_
    refine R_bipush X dL_acts_167 (by decide +kernel) ?_
    obtain ⟨r23, M24, hc25, hf⟩ := zbnd_some hf
    refine R_callSi X (av := [.int (zI (ishr v1 9)), .int (zI 17)]) (rest := [.int (zI 1), .int (zI r4), .ref (ad 0)]) (c_L_low l D cas ad hi hc25) zy_L_low wm_L_45 rfl rfl ⟨Nat.le_of_ble_eq_true rfl, Nat.le_of_ble_eq_true rfl⟩ ⟨Nat.le_refl _, Nat.le_refl _⟩ (Nat.le_of_ble_eq_true rfl) dL_acts_169 ?_
    refine R_iadd X dL_acts_172 ?_
    obtain ⟨r26, M27, hc28, hf⟩ := zbnd_some hf
    refine R_callVi X (av := [.int (zI r4), .int (zI (1 + r23))]) (rest := []) (c_X9_setRoom l D cas ad hi hc28) zy_X9_setRoom lc_0 rfl rfl wm_L_69 rfl rfl ⟨Nat.le_of_ble_eq_true rfl, Nat.le_of_ble_eq_true rfl⟩ ⟨Nat.le_refl _, Nat.le_refl _⟩ (Nat.le_of_ble_eq_true rfl) dL_acts_173 ?_
    exact R_iret X hr hk0 dL_acts_176 hf
  have hf := zelse hf c29
  by_cases c32 : r10 = 2
  · have hf := zthen hf c32
    refine R_tableIn X (o := 144) 177 c32 dL_acts_33 (by decide) (by decide) (by decide) (by decide +kernel) (by decide) ?_
    refine R_aload_n X 3 dL_acts_177 rfl rfl ?_
    refine R_iload_n X 1 dL_acts_178 rfl rfl ?_
    refine R_iload_n X 4 dL_acts_179 rfl rfl ?_
    refine R_bipush X dL_acts_180 (by decide +kernel) ?_
    refine R_ishr X dL_acts_182 ?_
    refine R_iconst X dL_acts_183 ?_
    refine R_iand X dL_acts_184 ?_
    refine R_iconst X dL_acts_185 ?_
    obtain ⟨hq30, hf⟩ := zgrd hf
    refine R_icmp_ne X 193 ⟨hq30, (by decide)⟩ dL_acts_186 (by decide) (fun c31 => ?_) (fun c31 => ?_)
    · have hf := zelse hf c31
      refine R_iconst X dL_acts_193 ?_
      exact R_sub [] rfl (hB194 0 r4 M11 hf)
    · have hf := zthen hf c31
      refine R_iconst X dL_acts_189 ?_
      refine R_goto X 194 dL_acts_190 (by decide) ?_
      exact R_sub [] rfl (hB194 1 r4 M11 hf)
  have hf := zelse hf c32
  by_cases c39 : r10 = 3
  · have hf := zthen hf c39
    refine R_tableIn X (o := 165) 198 c39 dL_acts_33 (by decide) (by decide) (by decide) (by decide +kernel) (by decide) ?_
    refine R_aload_n X 3 dL_acts_198 rfl rfl ?_
    refine R_iload_n X 1 dL_acts_199 rfl rfl ?_
    refine R_iconst X dL_acts_200 ?_
    refine R_iload_n X 4 dL_acts_201 rfl rfl ?_
    refine R_bipush X dL_acts_202 (by decide +kernel) ?_
    refine R_ishr X dL_acts_204 ?_
    refine R_bipush X dL_acts_205 (by decide +kernel) ?_
    obtain ⟨r33, M34, hc35, hf⟩ := zbnd_some hf
    refine R_callSi X (av := [.int (zI (ishr v1 9)), .int (zI 8)]) (rest := [.int (zI 1), .int (zI r4), .ref (ad 0)]) (c_L_low l D cas ad hi hc35) zy_L_low wm_L_45 rfl rfl ⟨Nat.le_of_ble_eq_true rfl, Nat.le_of_ble_eq_true rfl⟩ ⟨Nat.le_refl _, Nat.le_refl _⟩ (Nat.le_of_ble_eq_true rfl) dL_acts_207 ?_
    refine R_iadd X dL_acts_210 ?_
    obtain ⟨r36, M37, hc38, hf⟩ := zbnd_some hf
    refine R_callVi X (av := [.int (zI r4), .int (zI (1 + r33))]) (rest := []) (c_X9_addWolf l D cas ad hi hc38) zy_X9_addWolf lc_0 rfl rfl wm_L_76 rfl rfl ⟨Nat.le_of_ble_eq_true rfl, Nat.le_of_ble_eq_true rfl⟩ ⟨Nat.le_refl _, Nat.le_refl _⟩ (Nat.le_of_ble_eq_true rfl) dL_acts_211 ?_
    exact R_iret X hr hk0 dL_acts_214 hf
  have hf := zelse hf c39
  by_cases c43 : r10 = 4
  · have hf := zthen hf c43
    refine R_tableIn X (o := 182) 215 c43 dL_acts_33 (by decide) (by decide) (by decide) (by decide +kernel) (by decide) ?_
    refine R_aload_n X 3 dL_acts_215 rfl rfl ?_
    obtain ⟨r40, M41, hc42, hf⟩ := zbnd_some hf
    refine R_callVi X (av := []) (rest := []) (c_X9_driveWolf l D cas ad hi hc42) zy_X9_driveWolf lc_0 rfl rfl wm_L_79 rfl rfl ⟨Nat.le_of_ble_eq_true rfl, Nat.le_of_ble_eq_true rfl⟩ ⟨Nat.le_refl _, Nat.le_refl _⟩ (Nat.le_of_ble_eq_true rfl) dL_acts_216 ?_
    exact R_iret X hr hk0 dL_acts_219 hf
  have hf := zelse hf c43
  by_cases c47 : r10 = 5
  · have hf := zthen hf c47
    refine R_tableIn X (o := 187) 220 c47 dL_acts_33 (by decide) (by decide) (by decide) (by decide +kernel) (by decide) ?_
    refine R_aload_n X 3 dL_acts_220 rfl rfl ?_
    refine R_iload_n X 1 dL_acts_221 rfl rfl ?_
    obtain ⟨r44, M45, hc46, hf⟩ := zbnd_some hf
    refine R_callVi X (av := [.int (zI r4)]) (rest := []) (c_X9_addReader l D cas ad hi hc46) zy_X9_addReader lc_0 rfl rfl wm_L_82 rfl rfl ⟨Nat.le_of_ble_eq_true rfl, Nat.le_of_ble_eq_true rfl⟩ ⟨Nat.le_refl _, Nat.le_refl _⟩ (Nat.le_of_ble_eq_true rfl) dL_acts_222 ?_
    exact R_iret X hr hk0 dL_acts_225 hf
  have hf := zelse hf c47
  by_cases c57 : r10 = 6
  · have hf := zthen hf c57
    refine R_tableIn X (o := 193) 226 c57 dL_acts_33 (by decide) (by decide) (by decide) (by decide +kernel) (by decide) ?_
    refine R_aload_n X 3 dL_acts_226 rfl rfl ?_
    refine R_iload_n X 4 dL_acts_227 rfl rfl ?_
    refine R_iconst X dL_acts_228 ?_
    refine R_ishr X dL_acts_229 ?_
    refine R_iconst X dL_acts_230 ?_
    obtain ⟨r48, M49, hc50, hf⟩ := zbnd_some hf
    refine R_callSi X (av := [.int (zI (ishr v1 5)), .int (zI 5)]) (rest := [.ref (ad 0)]) (c_L_low l D cas ad hi hc50) zy_L_low wm_L_45 rfl rfl ⟨Nat.le_of_ble_eq_true rfl, Nat.le_of_ble_eq_true rfl⟩ ⟨Nat.le_refl _, Nat.le_refl _⟩ (Nat.le_of_ble_eq_true rfl) dL_acts_231 ?_
    refine R_iload_n X 4 dL_acts_234 rfl rfl ?_
    refine R_bipush X dL_acts_235 (by decide +kernel) ?_
    refine R_ishr X dL_acts_237 ?_
    refine R_bipush X dL_acts_238 (by decide +kernel) ?_
    obtain ⟨r51, M52, hc53, hf⟩ := zbnd_some hf
    refine R_callSi X (av := [.int (zI (ishr v1 9)), .int (zI 92)]) (rest := [.int (zI r48), .ref (ad 0)]) (c_L_low l D cas ad hi hc53) zy_L_low wm_L_45 rfl rfl ⟨Nat.le_of_ble_eq_true rfl, Nat.le_of_ble_eq_true rfl⟩ ⟨Nat.le_refl _, Nat.le_refl _⟩ (Nat.le_of_ble_eq_true rfl) dL_acts_240 ?_
    obtain ⟨r54, M55, hc56, hf⟩ := zbnd_some hf
    refine R_callVi X (av := [.int (zI r48), .int (zI r51)]) (rest := []) (c_X9_setSeason l D cas ad hi hc56) zy_X9_setSeason lc_0 rfl rfl wm_L_85 rfl rfl ⟨Nat.le_of_ble_eq_true rfl, Nat.le_of_ble_eq_true rfl⟩ ⟨Nat.le_refl _, Nat.le_refl _⟩ (Nat.le_of_ble_eq_true rfl) dL_acts_243 ?_
    exact R_iret X hr hk0 dL_acts_246 hf
  have hf := zelse hf c57
  by_cases c67 : r10 = 7
  · have hf := zthen hf c67
    refine R_tableIn X (o := 214) 247 c67 dL_acts_33 (by decide) (by decide) (by decide) (by decide +kernel) (by decide) ?_
    refine R_aload_n X 3 dL_acts_247 rfl rfl ?_
    refine R_iload_n X 4 dL_acts_248 rfl rfl ?_
    refine R_iconst X dL_acts_249 ?_
    refine R_ishr X dL_acts_250 ?_
    refine R_bipush X dL_acts_251 (by decide +kernel) ?_
    obtain ⟨r58, M59, hc60, hf⟩ := zbnd_some hf
    refine R_callSi X (av := [.int (zI (ishr v1 5)), .int (zI 7)]) (rest := [.ref (ad 0)]) (c_L_low l D cas ad hi hc60) zy_L_low wm_L_45 rfl rfl ⟨Nat.le_of_ble_eq_true rfl, Nat.le_of_ble_eq_true rfl⟩ ⟨Nat.le_refl _, Nat.le_refl _⟩ (Nat.le_of_ble_eq_true rfl) dL_acts_253 ?_
    refine R_iload_n X 4 dL_acts_256 rfl rfl ?_
    refine R_bipush X dL_acts_257 (by decide +kernel) ?_
    refine R_ishr X dL_acts_259 ?_
    refine R_bipush X dL_acts_260 (by decide +kernel) ?_
    obtain ⟨r61, M62, hc63, hf⟩ := zbnd_some hf
    refine R_callSi X (av := [.int (zI (ishr v1 9)), .int (zI 32)]) (rest := [.int (zI r58), .ref (ad 0)]) (c_L_low l D cas ad hi hc63) zy_L_low wm_L_45 rfl rfl ⟨Nat.le_of_ble_eq_true rfl, Nat.le_of_ble_eq_true rfl⟩ ⟨Nat.le_refl _, Nat.le_refl _⟩ (Nat.le_of_ble_eq_true rfl) dL_acts_262 ?_
    obtain ⟨r64, M65, hc66, hf⟩ := zbnd_some hf
    refine R_callVi X (av := [.int (zI r58), .int (zI r61)]) (rest := []) (c_X9_set l D cas ad hi hc66) zy_X9_set lc_0 rfl rfl wm_L_88 rfl rfl ⟨Nat.le_of_ble_eq_true rfl, Nat.le_of_ble_eq_true rfl⟩ ⟨Nat.le_refl _, Nat.le_refl _⟩ (Nat.le_of_ble_eq_true rfl) dL_acts_265 ?_
    exact R_iret X hr hk0 dL_acts_268 hf
  have hf := zelse hf c67
  by_cases c71 : r10 = 8
  · have hf := zthen hf c71
    refine R_tableIn X (o := 236) 269 c71 dL_acts_33 (by decide) (by decide) (by decide) (by decide +kernel) (by decide) ?_
    refine R_aload_n X 3 dL_acts_269 rfl rfl ?_
    obtain ⟨r68, M69, hc70, hf⟩ := zbnd_some hf
    refine R_callVi X (av := []) (rest := []) (c_X9_post l D cas ad hi hc70) zy_X9_post lc_0 rfl rfl wm_L_91 rfl rfl ⟨Nat.le_of_ble_eq_true rfl, Nat.le_of_ble_eq_true rfl⟩ ⟨Nat.le_refl _, Nat.le_refl _⟩ (Nat.le_of_ble_eq_true rfl) dL_acts_270 ?_
    exact R_iret X hr hk0 dL_acts_273 hf
  have hf := zelse hf c71
  by_cases c78 : r10 = 9
  · have hf := zthen hf c78
    refine R_tableIn X (o := 241) 274 c78 dL_acts_33 (by decide) (by decide) (by decide) (by decide +kernel) (by decide) ?_
    refine R_aload_n X 3 dL_acts_274 rfl rfl ?_
    refine R_iload_n X 4 dL_acts_275 rfl rfl ?_
    refine R_iconst X dL_acts_276 ?_
    refine R_ishr X dL_acts_277 ?_
    refine R_iconst X dL_acts_278 ?_
    obtain ⟨r72, M73, hc74, hf⟩ := zbnd_some hf
    refine R_callSi X (av := [.int (zI (ishr v1 5)), .int (zI 4)]) (rest := [.ref (ad 0)]) (c_L_low l D cas ad hi hc74) zy_L_low wm_L_45 rfl rfl ⟨Nat.le_of_ble_eq_true rfl, Nat.le_of_ble_eq_true rfl⟩ ⟨Nat.le_refl _, Nat.le_refl _⟩ (Nat.le_of_ble_eq_true rfl) dL_acts_279 ?_
    obtain ⟨r75, M76, hc77, hf⟩ := zbnd_some hf
    refine R_callVi X (av := [.int (zI r72)]) (rest := []) (c_X9_cut l D cas ad hi hc77) zy_X9_cut lc_0 rfl rfl wm_L_94 rfl rfl ⟨Nat.le_of_ble_eq_true rfl, Nat.le_of_ble_eq_true rfl⟩ ⟨Nat.le_refl _, Nat.le_refl _⟩ (Nat.le_of_ble_eq_true rfl) dL_acts_282 ?_
    exact R_iret X hr hk0 dL_acts_285 hf
  have hf := zelse hf c78
  by_cases c79 : r10 = 10
  · have hf := zthen hf c79
    refine R_tableIn X (o := 253) 286 c79 dL_acts_33 (by decide) (by decide) (by decide) (by decide +kernel) (by decide) ?_
    exact R_sub [3, 4] rfl (hB286 v1 M11 hf)
  have hf := zelse hf c79
  by_cases c80 : r10 = 11
  · have hf := zthen hf c80
    refine R_tableIn X (o := 253) 286 c80 dL_acts_33 (by decide) (by decide) (by decide) (by decide +kernel) (by decide) ?_
    exact R_sub [3, 4] rfl (hB286 v1 M11 hf)
  have hf := zelse hf c80
  by_cases c81 : r10 = 12
  · have hf := zthen hf c81
    refine R_tableIn X (o := 253) 286 c81 dL_acts_33 (by decide) (by decide) (by decide) (by decide +kernel) (by decide) ?_
    exact R_sub [3, 4] rfl (hB286 v1 M11 hf)
  have hf := zelse hf c81
  by_cases c82 : r10 = 13
  · have hf := zthen hf c82
    refine R_tableIn X (o := 267) 300 c82 dL_acts_33 (by decide) (by decide) (by decide) (by decide +kernel) (by decide) ?_
    exact R_sub [3, 1, 0] rfl (hB300 r4 r7 M11 hf)
  have hf := zelse hf c82
  by_cases c83 : r10 = 14
  · have hf := zthen hf c83
    refine R_tableIn X (o := 267) 300 c83 dL_acts_33 (by decide) (by decide) (by decide) (by decide +kernel) (by decide) ?_
    exact R_sub [3, 1, 0] rfl (hB300 r4 r7 M11 hf)
  have hf := zelse hf c83
  by_cases c84 : r10 = 15
  · have hf := zthen hf c84
    refine R_tableIn X (o := 267) 300 c84 dL_acts_33 (by decide) (by decide) (by decide) (by decide +kernel) (by decide) ?_
    exact R_sub [3, 1, 0] rfl (hB300 r4 r7 M11 hf)
  have hf := zelse hf c84
  by_cases c85 : r10 = 16
  · have hf := zthen hf c85
    refine R_tableIn X (o := 267) 300 c85 dL_acts_33 (by decide) (by decide) (by decide) (by decide +kernel) (by decide) ?_
    exact R_sub [3, 1, 0] rfl (hB300 r4 r7 M11 hf)
  have hf := zelse hf c85
  by_cases c98 : r10 = 17
  · have hf := zthen hf c98
    refine R_tableIn X (o := 275) 308 c98 dL_acts_33 (by decide) (by decide) (by decide) (by decide +kernel) (by decide) ?_
    refine R_aload_n X 3 dL_acts_308 rfl rfl ?_
    refine R_iload_n X 4 dL_acts_309 rfl rfl ?_
    refine R_iconst X dL_acts_310 ?_
    refine R_ishr X dL_acts_311 ?_
    refine R_iconst X dL_acts_312 ?_
    obtain ⟨r86, M87, hc88, hf⟩ := zbnd_some hf
    refine R_callSi X (av := [.int (zI (ishr v1 5)), .int (zI 4)]) (rest := [.ref (ad 0)]) (c_L_low l D cas ad hi hc88) zy_L_low wm_L_45 rfl rfl ⟨Nat.le_of_ble_eq_true rfl, Nat.le_of_ble_eq_true rfl⟩ ⟨Nat.le_refl _, Nat.le_refl _⟩ (Nat.le_of_ble_eq_true rfl) dL_acts_313 ?_
    refine R_iload_n X 4 dL_acts_316 rfl rfl ?_
    refine R_bipush X dL_acts_317 (by decide +kernel) ?_
    refine R_ishr X dL_acts_319 ?_
    refine R_sipush X dL_acts_320 (by decide +kernel) ?_
    obtain ⟨r89, M90, hc91, hf⟩ := zbnd_some hf
    refine R_callSi X (av := [.int (zI (ishr v1 9)), .int (zI 260)]) (rest := [.int (zI r86), .ref (ad 0)]) (c_L_low l D cas ad hi hc91) zy_L_low wm_L_45 rfl rfl ⟨Nat.le_of_ble_eq_true rfl, Nat.le_of_ble_eq_true rfl⟩ ⟨Nat.le_refl _, Nat.le_refl _⟩ (Nat.le_of_ble_eq_true rfl) dL_acts_323 ?_
    refine R_iload_n X 4 dL_acts_326 rfl rfl ?_
    refine R_bipush X dL_acts_327 (by decide +kernel) ?_
    refine R_ishr X dL_acts_329 ?_
    refine R_sipush X dL_acts_330 (by decide +kernel) ?_
    obtain ⟨r92, M93, hc94, hf⟩ := zbnd_some hf
    refine R_callSi X (av := [.int (zI (ishr v1 18)), .int (zI 10001)]) (rest := [.int (zI r89), .int (zI r86), .ref (ad 0)]) (c_L_low l D cas ad hi hc94) zy_L_low wm_L_45 rfl rfl ⟨Nat.le_of_ble_eq_true rfl, Nat.le_of_ble_eq_true rfl⟩ ⟨Nat.le_refl _, Nat.le_refl _⟩ (Nat.le_of_ble_eq_true rfl) dL_acts_333 ?_
    obtain ⟨r95, M96, hc97, hf⟩ := zbnd_some hf
    refine R_callVi X (av := [.int (zI r86), .int (zI r89), .int (zI r92)]) (rest := []) (c_X9_write l D cas ad hi hc97) zy_X9_write lc_0 rfl rfl wm_L_100 rfl rfl ⟨Nat.le_of_ble_eq_true rfl, Nat.le_of_ble_eq_true rfl⟩ ⟨Nat.le_refl _, Nat.le_refl _⟩ (Nat.le_of_ble_eq_true rfl) dL_acts_336 ?_
    exact R_iret X hr hk0 dL_acts_339 hf
  have hf := zelse hf c98
  refine R_tableOut X 340 hq13 dL_acts_33 (by omega) (by decide) ?_
  refine R_aload_n X 3 dL_acts_340 rfl rfl ?_
  refine R_iload_n X 4 dL_acts_341 rfl rfl ?_
  refine R_iconst X dL_acts_342 ?_
  refine R_ishr X dL_acts_343 ?_
  refine R_iconst X dL_acts_344 ?_
  obtain ⟨r99, M100, hc101, hf⟩ := zbnd_some hf
  refine R_callSi X (av := [.int (zI (ishr v1 5)), .int (zI 4)]) (rest := [.ref (ad 0)]) (c_L_low l D cas ad hi hc101) zy_L_low wm_L_45 rfl rfl ⟨Nat.le_of_ble_eq_true rfl, Nat.le_of_ble_eq_true rfl⟩ ⟨Nat.le_refl _, Nat.le_refl _⟩ (Nat.le_of_ble_eq_true rfl) dL_acts_345 ?_
  refine R_iload_n X 4 dL_acts_348 rfl rfl ?_
  refine R_bipush X dL_acts_349 (by decide +kernel) ?_
  refine R_ishr X dL_acts_351 ?_
  refine R_sipush X dL_acts_352 (by decide +kernel) ?_
  obtain ⟨r102, M103, hc104, hf⟩ := zbnd_some hf
  refine R_callSi X (av := [.int (zI (ishr v1 9)), .int (zI 256)]) (rest := [.int (zI r99), .ref (ad 0)]) (c_L_low l D cas ad hi hc104) zy_L_low wm_L_45 rfl rfl ⟨Nat.le_of_ble_eq_true rfl, Nat.le_of_ble_eq_true rfl⟩ ⟨Nat.le_refl _, Nat.le_refl _⟩ (Nat.le_of_ble_eq_true rfl) dL_acts_355 ?_
  obtain ⟨r105, M106, hc107, hf⟩ := zbnd_some hf
  refine R_callVi X (av := [.int (zI r99), .int (zI r102)]) (rest := []) (c_X9_request l D cas ad hi hc107) zy_X9_request lc_0 rfl rfl wm_L_52 rfl rfl ⟨Nat.le_of_ble_eq_true rfl, Nat.le_of_ble_eq_true rfl⟩ ⟨Nat.le_refl _, Nat.le_refl _⟩ (Nat.le_of_ble_eq_true rfl) dL_acts_358 ?_
  exact R_iret X hr hk0 dL_acts_361 hf
theorem dL_all_0 : decode cL_all 0 = .ok (.ldc2_w 8, 3) := by decide +kernel
theorem dL_all_3 : decode cL_all 3 = .ok (.lstore_n 1, 1) := by decide +kernel
theorem dL_all_4 : decode cL_all 4 = .ok (.iconst 0, 1) := by decide +kernel
theorem dL_all_5 : decode cL_all 5 = .ok (.istore_n 3, 1) := by decide +kernel
theorem dL_all_6 : decode cL_all 6 = .ok (.iload_n 3, 1) := by decide +kernel
theorem dL_all_7 : decode cL_all 7 = .ok (.bipush 13, 2) := by decide +kernel
theorem dL_all_9 : decode cL_all 9 = .ok (.if_icmp .ge 22, 3) := by decide +kernel
theorem dL_all_12 : decode cL_all 12 = .ok (.ldc2_w 10, 3) := by decide +kernel
theorem dL_all_15 : decode cL_all 15 = .ok (.lload_n 1, 1) := by decide +kernel
theorem dL_all_16 : decode cL_all 16 = .ok (.lmul, 1) := by decide +kernel
theorem dL_all_17 : decode cL_all 17 = .ok (.aload_n 0, 1) := by decide +kernel
theorem dL_all_18 : decode cL_all 18 = .ok (.iload_n 3, 1) := by decide +kernel
theorem dL_all_19 : decode cL_all 19 = .ok (.invokevirtual 12, 3) := by decide +kernel
theorem dL_all_22 : decode cL_all 22 = .ok (.i2l, 1) := by decide +kernel
theorem dL_all_23 : decode cL_all 23 = .ok (.ladd, 1) := by decide +kernel
theorem dL_all_24 : decode cL_all 24 = .ok (.lstore_n 1, 1) := by decide +kernel
theorem dL_all_25 : decode cL_all 25 = .ok (.iinc 3 1, 3) := by decide +kernel
theorem dL_all_28 : decode cL_all 28 = .ok (.goto (-22), 3) := by decide +kernel
theorem dL_all_31 : decode cL_all 31 = .ok (.iconst 0, 1) := by decide +kernel
theorem dL_all_32 : decode cL_all 32 = .ok (.istore_n 3, 1) := by decide +kernel
theorem dL_all_33 : decode cL_all 33 = .ok (.iload_n 3, 1) := by decide +kernel
theorem dL_all_34 : decode cL_all 34 = .ok (.aload_n 0, 1) := by decide +kernel
theorem dL_all_35 : decode cL_all 35 = .ok (.iconst 3, 1) := by decide +kernel
theorem dL_all_36 : decode cL_all 36 = .ok (.invokevirtual 12, 3) := by decide +kernel
theorem dL_all_39 : decode cL_all 39 = .ok (.if_icmp .ge 79, 3) := by decide +kernel
theorem dL_all_42 : decode cL_all 42 = .ok (.iconst 0, 1) := by decide +kernel
theorem dL_all_43 : decode cL_all 43 = .ok (.istore 4, 2) := by decide +kernel
theorem dL_all_45 : decode cL_all 45 = .ok (.iload 4, 2) := by decide +kernel
theorem dL_all_47 : decode cL_all 47 = .ok (.bipush 9, 2) := by decide +kernel
theorem dL_all_49 : decode cL_all 49 = .ok (.if_icmp .ge 24, 3) := by decide +kernel
theorem dL_all_52 : decode cL_all 52 = .ok (.ldc2_w 10, 3) := by decide +kernel
theorem dL_all_55 : decode cL_all 55 = .ok (.lload_n 1, 1) := by decide +kernel
theorem dL_all_56 : decode cL_all 56 = .ok (.lmul, 1) := by decide +kernel
theorem dL_all_57 : decode cL_all 57 = .ok (.aload_n 0, 1) := by decide +kernel
theorem dL_all_58 : decode cL_all 58 = .ok (.iload_n 3, 1) := by decide +kernel
theorem dL_all_59 : decode cL_all 59 = .ok (.iload 4, 2) := by decide +kernel
theorem dL_all_61 : decode cL_all 61 = .ok (.invokevirtual 18, 3) := by decide +kernel
theorem dL_all_64 : decode cL_all 64 = .ok (.i2l, 1) := by decide +kernel
theorem dL_all_65 : decode cL_all 65 = .ok (.ladd, 1) := by decide +kernel
theorem dL_all_66 : decode cL_all 66 = .ok (.lstore_n 1, 1) := by decide +kernel
theorem dL_all_67 : decode cL_all 67 = .ok (.iinc 4 1, 3) := by decide +kernel
theorem dL_all_70 : decode cL_all 70 = .ok (.goto (-25), 3) := by decide +kernel
theorem dL_all_73 : decode cL_all 73 = .ok (.iconst 0, 1) := by decide +kernel
theorem dL_all_74 : decode cL_all 74 = .ok (.istore 4, 2) := by decide +kernel
theorem dL_all_76 : decode cL_all 76 = .ok (.iload 4, 2) := by decide +kernel
theorem dL_all_78 : decode cL_all 78 = .ok (.bipush 48, 2) := by decide +kernel
theorem dL_all_80 : decode cL_all 80 = .ok (.if_icmp .ge 32, 3) := by decide +kernel
theorem dL_all_83 : decode cL_all 83 = .ok (.ldc2_w 10, 3) := by decide +kernel
theorem dL_all_86 : decode cL_all 86 = .ok (.lload_n 1, 1) := by decide +kernel
theorem dL_all_87 : decode cL_all 87 = .ok (.lmul, 1) := by decide +kernel
theorem dL_all_88 : decode cL_all 88 = .ok (.aload_n 0, 1) := by decide +kernel
theorem dL_all_89 : decode cL_all 89 = .ok (.iload_n 3, 1) := by decide +kernel
theorem dL_all_90 : decode cL_all 90 = .ok (.iload 4, 2) := by decide +kernel
theorem dL_all_92 : decode cL_all 92 = .ok (.bipush 16, 2) := by decide +kernel
theorem dL_all_94 : decode cL_all 94 = .ok (.irem, 1) := by decide +kernel
theorem dL_all_95 : decode cL_all 95 = .ok (.iload 4, 2) := by decide +kernel
theorem dL_all_97 : decode cL_all 97 = .ok (.bipush 16, 2) := by decide +kernel
theorem dL_all_99 : decode cL_all 99 = .ok (.idiv, 1) := by decide +kernel
theorem dL_all_100 : decode cL_all 100 = .ok (.invokevirtual 22, 3) := by decide +kernel
theorem dL_all_103 : decode cL_all 103 = .ok (.i2l, 1) := by decide +kernel
theorem dL_all_104 : decode cL_all 104 = .ok (.ladd, 1) := by decide +kernel
theorem dL_all_105 : decode cL_all 105 = .ok (.lstore_n 1, 1) := by decide +kernel
theorem dL_all_106 : decode cL_all 106 = .ok (.iinc 4 1, 3) := by decide +kernel
theorem dL_all_109 : decode cL_all 109 = .ok (.goto (-33), 3) := by decide +kernel
theorem dL_all_112 : decode cL_all 112 = .ok (.iinc 3 1, 3) := by decide +kernel
theorem dL_all_115 : decode cL_all 115 = .ok (.goto (-82), 3) := by decide +kernel
theorem dL_all_118 : decode cL_all 118 = .ok (.iconst 0, 1) := by decide +kernel
theorem dL_all_119 : decode cL_all 119 = .ok (.istore_n 3, 1) := by decide +kernel
theorem dL_all_120 : decode cL_all 120 = .ok (.iload_n 3, 1) := by decide +kernel
theorem dL_all_121 : decode cL_all 121 = .ok (.bipush 112, 2) := by decide +kernel
theorem dL_all_123 : decode cL_all 123 = .ok (.if_icmp .ge 29, 3) := by decide +kernel
theorem dL_all_126 : decode cL_all 126 = .ok (.ldc2_w 10, 3) := by decide +kernel
theorem dL_all_129 : decode cL_all 129 = .ok (.lload_n 1, 1) := by decide +kernel
theorem dL_all_130 : decode cL_all 130 = .ok (.lmul, 1) := by decide +kernel
theorem dL_all_131 : decode cL_all 131 = .ok (.aload_n 0, 1) := by decide +kernel
theorem dL_all_132 : decode cL_all 132 = .ok (.iload_n 3, 1) := by decide +kernel
theorem dL_all_133 : decode cL_all 133 = .ok (.bipush 16, 2) := by decide +kernel
theorem dL_all_135 : decode cL_all 135 = .ok (.irem, 1) := by decide +kernel
theorem dL_all_136 : decode cL_all 136 = .ok (.iload_n 3, 1) := by decide +kernel
theorem dL_all_137 : decode cL_all 137 = .ok (.bipush 16, 2) := by decide +kernel
theorem dL_all_139 : decode cL_all 139 = .ok (.idiv, 1) := by decide +kernel
theorem dL_all_140 : decode cL_all 140 = .ok (.invokevirtual 26, 3) := by decide +kernel
theorem dL_all_143 : decode cL_all 143 = .ok (.i2l, 1) := by decide +kernel
theorem dL_all_144 : decode cL_all 144 = .ok (.ladd, 1) := by decide +kernel
theorem dL_all_145 : decode cL_all 145 = .ok (.lstore_n 1, 1) := by decide +kernel
theorem dL_all_146 : decode cL_all 146 = .ok (.iinc 3 1, 3) := by decide +kernel
theorem dL_all_149 : decode cL_all 149 = .ok (.goto (-29), 3) := by decide +kernel
theorem dL_all_152 : decode cL_all 152 = .ok (.iconst 0, 1) := by decide +kernel
theorem dL_all_153 : decode cL_all 153 = .ok (.istore_n 3, 1) := by decide +kernel
theorem dL_all_154 : decode cL_all 154 = .ok (.iload_n 3, 1) := by decide +kernel
theorem dL_all_155 : decode cL_all 155 = .ok (.aload_n 0, 1) := by decide +kernel
theorem dL_all_156 : decode cL_all 156 = .ok (.bipush 6, 2) := by decide +kernel
theorem dL_all_158 : decode cL_all 158 = .ok (.invokevirtual 12, 3) := by decide +kernel
theorem dL_all_161 : decode cL_all 161 = .ok (.if_icmp .ge 63, 3) := by decide +kernel
theorem dL_all_164 : decode cL_all 164 = .ok (.iconst 0, 1) := by decide +kernel
theorem dL_all_165 : decode cL_all 165 = .ok (.istore 4, 2) := by decide +kernel
theorem dL_all_167 : decode cL_all 167 = .ok (.iload 4, 2) := by decide +kernel
theorem dL_all_169 : decode cL_all 169 = .ok (.bipush 16, 2) := by decide +kernel
theorem dL_all_171 : decode cL_all 171 = .ok (.if_icmp .ge 47, 3) := by decide +kernel
theorem dL_all_174 : decode cL_all 174 = .ok (.ldc2_w 10, 3) := by decide +kernel
theorem dL_all_177 : decode cL_all 177 = .ok (.lload_n 1, 1) := by decide +kernel
theorem dL_all_178 : decode cL_all 178 = .ok (.lmul, 1) := by decide +kernel
theorem dL_all_179 : decode cL_all 179 = .ok (.ldc2_w 29, 3) := by decide +kernel
theorem dL_all_182 : decode cL_all 182 = .ok (.aload_n 0, 1) := by decide +kernel
theorem dL_all_183 : decode cL_all 183 = .ok (.iload_n 3, 1) := by decide +kernel
theorem dL_all_184 : decode cL_all 184 = .ok (.iload 4, 2) := by decide +kernel
theorem dL_all_186 : decode cL_all 186 = .ok (.invokevirtual 31, 3) := by decide +kernel
theorem dL_all_189 : decode cL_all 189 = .ok (.i2l, 1) := by decide +kernel
theorem dL_all_190 : decode cL_all 190 = .ok (.lmul, 1) := by decide +kernel
theorem dL_all_191 : decode cL_all 191 = .ok (.ladd, 1) := by decide +kernel
theorem dL_all_192 : decode cL_all 192 = .ok (.iload 4, 2) := by decide +kernel
theorem dL_all_194 : decode cL_all 194 = .ok (.iconst 5, 1) := by decide +kernel
theorem dL_all_195 : decode cL_all 195 = .ok (.if_icmp .ge 13, 3) := by decide +kernel
theorem dL_all_198 : decode cL_all 198 = .ok (.aload_n 0, 1) := by decide +kernel
theorem dL_all_199 : decode cL_all 199 = .ok (.iload_n 3, 1) := by decide +kernel
theorem dL_all_200 : decode cL_all 200 = .ok (.iload 4, 2) := by decide +kernel
theorem dL_all_202 : decode cL_all 202 = .ok (.invokevirtual 34, 3) := by decide +kernel
theorem dL_all_205 : decode cL_all 205 = .ok (.goto 4, 3) := by decide +kernel
theorem dL_all_208 : decode cL_all 208 = .ok (.iconst 0, 1) := by decide +kernel
theorem dL_all_209 : decode cL_all 209 = .ok (.i2l, 1) := by decide +kernel
theorem dL_all_210 : decode cL_all 210 = .ok (.ladd, 1) := by decide +kernel
theorem dL_all_211 : decode cL_all 211 = .ok (.lstore_n 1, 1) := by decide +kernel
theorem dL_all_212 : decode cL_all 212 = .ok (.iinc 4 1, 3) := by decide +kernel
theorem dL_all_215 : decode cL_all 215 = .ok (.goto (-48), 3) := by decide +kernel
theorem dL_all_218 : decode cL_all 218 = .ok (.iinc 3 1, 3) := by decide +kernel
theorem dL_all_221 : decode cL_all 221 = .ok (.goto (-67), 3) := by decide +kernel
theorem dL_all_224 : decode cL_all 224 = .ok (.lload_n 1, 1) := by decide +kernel
theorem dL_all_225 : decode cL_all 225 = .ok (.lreturn, 1) := by decide +kernel
set_option maxRecDepth 100000 in
set_option maxHeartbeats 4000000 in
theorem c_L_all (l : Launch) (D : va_G) (cas : Nat → ClassId) (ad : Nat → Nat) (hi : zInj ad)   {r : Int} {M M' : Mem} (hf : f_L_all M = some (r, M')) : zMl l D cas ad yL_all cL_all 5 (some .long) 5 109 [.ref (ad 0)] M r M' := by
  refine zbody (by decide) (Nat.le_of_ble_eq_true rfl) hi ?_
  intro p e s m args below meth c X hr hk0
  have X : zX p s m args c cL_all "ShardTrailsLaw" 5 D cas ad (zA ad) := X
  have hB76 : ∀ (g33 : Int → Int → Mem → Option (Int × Mem)) (hg33 : ∀ (v1 v3 : Int) (M : Mem), g33 v1 v3 M = some (r, M') → WW p l e (zrm 5 109) s m args below meth c D cas ad (zA ad) 5 0 0 (MQ below (zQl D cas ad r M') args s 0 0 (zA ad)) 33 [(0, .ref (ad 0)), (1, .long (zJ v1)), (3, .int (zI v3))] [] M) (n : Nat) (v1 v3 v4 : Int) (M : Mem), f_L_all_b76 g33 n v1 v3 v4 M = some (r, M') → WW p l e (zrm 5 109) s m args below meth c D cas ad (zA ad) 5 0 0 (MQ below (zQl D cas ad r M') args s 0 0 (zA ad)) 76 [(0, .ref (ad 0)), (1, .long (zJ v1)), (3, .int (zI v3)), (4, .int (zI v4))] [] M := by
    intro g33 hg33 n
    induction n with
    | zero => intro v1 v3 v4 M hf; exact absurd hf (by unfold f_L_all_b76; simp)
    | succ n ih =>
      intro v1 v3 v4 M hf
      unfold f_L_all_b76 at hf
      refine R_iload X 3 dL_all_76 rfl ?_
      refine R_bipush X dL_all_78 (by decide +kernel) ?_
      obtain ⟨hq31, hf⟩ := zgrd hf
      refine R_icmp_ge X 112 ⟨hq31, (by decide)⟩ dL_all_80 (by decide) (fun c36 => ?_) (fun c36 => ?_)
      · have hf := zthen hf c36
        refine R_iinc X (lv' := [(3, .int (zI (v3 + 1))), (0, .ref (ad 0)), (1, .long (zJ v1)), (4, .int (zI v4))]) 2 dL_all_112 rfl (by decide) rfl ?_
        refine R_goto X 33 dL_all_115 (by decide) ?_
        exact R_sub [1, 2, 0] rfl (hg33 v1 (v3 + 1) M hf)
      · have hf := zelse hf c36
        refine R_ldc2 X (n := 31) wk_L_10 (by decide +kernel) dL_all_83 ?_
        refine R_lload_n X 1 dL_all_86 rfl rfl ?_
        refine R_lmul X dL_all_87 ?_
        refine R_aload_n X 0 dL_all_88 rfl rfl ?_
        refine R_iload_n X 2 dL_all_89 rfl rfl ?_
        refine R_iload X 3 dL_all_90 rfl ?_
        refine R_bipush X dL_all_92 (by decide +kernel) ?_
        refine R_irem X ⟨⟨hq31, (by decide)⟩, (by decide)⟩ dL_all_94 ?_
        refine R_iload X 3 dL_all_95 rfl ?_
        refine R_bipush X dL_all_97 (by decide +kernel) ?_
        refine R_idiv X ⟨⟨hq31, (by decide)⟩, (by decide)⟩ dL_all_99 ?_
        obtain ⟨r32, M33, hc34, hf⟩ := zbnd_some hf
        refine R_callVi X (av := [.int (zI v3), .int (zI (v4.tmod 16)), .int (zI (v4.tdiv 16))]) (rest := [.long (zJ (31 * v1))]) (c_X9_track l D cas ad hi hc34) zy_X9_track lc_0 rfl rfl wm_L_22 rfl rfl ⟨Nat.le_of_ble_eq_true rfl, Nat.le_of_ble_eq_true rfl⟩ ⟨Nat.le_refl _, Nat.le_refl _⟩ (Nat.le_of_ble_eq_true rfl) dL_all_100 ?_
        refine R_i2l X dL_all_103 ?_
        refine R_ladd X dL_all_104 ?_
        obtain ⟨x35, ex35, hf⟩ := zlt_some hf
        refine R_lstore_nX X (lv' := [(1, .long (zJ x35)), (0, .ref (ad 0)), (3, .int (zI v3)), (4, .int (zI v4))]) ex35 dL_all_105 rfl (by decide) rfl ?_
        refine R_iinc X (lv' := [(4, .int (zI (v4 + 1))), (1, .long (zJ x35)), (0, .ref (ad 0)), (3, .int (zI v3))]) 3 dL_all_106 rfl (by decide) rfl ?_
        refine R_goto X 76 dL_all_109 (by decide) ?_
        exact R_sub [2, 1, 3, 0] rfl (ih x35 v3 (v4 + 1) M33 hf)
  have hB45 : ∀ (g33 : Int → Int → Mem → Option (Int × Mem)) (hg33 : ∀ (v1 v3 : Int) (M : Mem), g33 v1 v3 M = some (r, M') → WW p l e (zrm 5 109) s m args below meth c D cas ad (zA ad) 5 0 0 (MQ below (zQl D cas ad r M') args s 0 0 (zA ad)) 33 [(0, .ref (ad 0)), (1, .long (zJ v1)), (3, .int (zI v3))] [] M) (n : Nat) (v1 v3 v4 : Int) (M : Mem), f_L_all_b45 g33 n v1 v3 v4 M = some (r, M') → WW p l e (zrm 5 109) s m args below meth c D cas ad (zA ad) 5 0 0 (MQ below (zQl D cas ad r M') args s 0 0 (zA ad)) 45 [(0, .ref (ad 0)), (1, .long (zJ v1)), (3, .int (zI v3)), (4, .int (zI v4))] [] M := by
    intro g33 hg33 n
    induction n with
    | zero => intro v1 v3 v4 M hf; exact absurd hf (by unfold f_L_all_b45; simp)
    | succ n ih =>
      intro v1 v3 v4 M hf
      unfold f_L_all_b45 at hf
      refine R_iload X 3 dL_all_45 rfl ?_
      refine R_bipush X dL_all_47 (by decide +kernel) ?_
      obtain ⟨hq19, hf⟩ := zgrd hf
      refine R_icmp_ge X 73 ⟨hq19, (by decide)⟩ dL_all_49 (by decide) (fun c24 => ?_) (fun c24 => ?_)
      · have hf := zthen hf c24
        refine R_iconst X dL_all_73 ?_
        refine R_istore X (lv' := [(4, .int (zI 0)), (0, .ref (ad 0)), (1, .long (zJ v1)), (3, .int (zI v3))]) dL_all_74 (by decide) rfl ?_
        exact R_sub [1, 2, 3, 0] rfl (hB76 g33 hg33 100000 v1 v3 0 M hf)
      · have hf := zelse hf c24
        refine R_ldc2 X (n := 31) wk_L_10 (by decide +kernel) dL_all_52 ?_
        refine R_lload_n X 1 dL_all_55 rfl rfl ?_
        refine R_lmul X dL_all_56 ?_
        refine R_aload_n X 0 dL_all_57 rfl rfl ?_
        refine R_iload_n X 2 dL_all_58 rfl rfl ?_
        refine R_iload X 3 dL_all_59 rfl ?_
        obtain ⟨r20, M21, hc22, hf⟩ := zbnd_some hf
        refine R_callVi X (av := [.int (zI v3), .int (zI v4)]) (rest := [.long (zJ (31 * v1))]) (c_X9_pasture l D cas ad hi hc22) zy_X9_pasture lc_0 rfl rfl wm_L_18 rfl rfl ⟨Nat.le_of_ble_eq_true rfl, Nat.le_of_ble_eq_true rfl⟩ ⟨Nat.le_refl _, Nat.le_refl _⟩ (Nat.le_of_ble_eq_true rfl) dL_all_61 ?_
        refine R_i2l X dL_all_64 ?_
        refine R_ladd X dL_all_65 ?_
        obtain ⟨x23, ex23, hf⟩ := zlt_some hf
        refine R_lstore_nX X (lv' := [(1, .long (zJ x23)), (0, .ref (ad 0)), (3, .int (zI v3)), (4, .int (zI v4))]) ex23 dL_all_66 rfl (by decide) rfl ?_
        refine R_iinc X (lv' := [(4, .int (zI (v4 + 1))), (1, .long (zJ x23)), (0, .ref (ad 0)), (3, .int (zI v3))]) 3 dL_all_67 rfl (by decide) rfl ?_
        refine R_goto X 45 dL_all_70 (by decide) ?_
        exact R_sub [2, 1, 3, 0] rfl (ih x23 v3 (v4 + 1) M21 hf)
  have hB209 : ∀ (g154 : Int → Int → Mem → Option (Int × Mem)) (hg154 : ∀ (v1 v3 : Int) (M : Mem), g154 v1 v3 M = some (r, M') → WW p l e (zrm 5 109) s m args below meth c D cas ad (zA ad) 5 0 0 (MQ below (zQl D cas ad r M') args s 0 0 (zA ad)) 154 [(0, .ref (ad 0)), (1, .long (zJ v1)), (3, .int (zI v3))] [] M) (g167 : Int → Int → Int → Mem → Option (Int × Mem)) (hg167 : ∀ (v1 v3 v4 : Int) (M : Mem), g167 v1 v3 v4 M = some (r, M') → WW p l e (zrm 5 109) s m args below meth c D cas ad (zA ad) 5 0 0 (MQ below (zQl D cas ad r M') args s 0 0 (zA ad)) 167 [(0, .ref (ad 0)), (1, .long (zJ v1)), (3, .int (zI v3)), (4, .int (zI v4))] [] M) (v3 v4 t2 t1 : Int) (M : Mem), f_L_all_b209 g154 g167 v3 v4 t2 t1 M = some (r, M') → WW p l e (zrm 5 109) s m args below meth c D cas ad (zA ad) 5 0 0 (MQ below (zQl D cas ad r M') args s 0 0 (zA ad)) 209 [(0, .ref (ad 0)), (3, .int (zI v3)), (4, .int (zI v4))] [.int (zI t2), .long (zJ t1)] M := by
    intro g154 hg154 g167 hg167 v3 v4 t2 t1 M hf
    unfold f_L_all_b209 at hf
    refine R_i2l X dL_all_209 ?_
    refine R_ladd X dL_all_210 ?_
    obtain ⟨x46, ex46, hf⟩ := zlt_some hf
    refine R_lstore_nX X (lv' := [(1, .long (zJ x46)), (0, .ref (ad 0)), (3, .int (zI v3)), (4, .int (zI v4))]) ex46 dL_all_211 rfl (by decide) rfl ?_
    refine R_iinc X (lv' := [(4, .int (zI (v4 + 1))), (1, .long (zJ x46)), (0, .ref (ad 0)), (3, .int (zI v3))]) 3 dL_all_212 rfl (by decide) rfl ?_
    refine R_goto X 167 dL_all_215 (by decide) ?_
    exact R_sub [2, 1, 3, 0] rfl (hg167 x46 v3 (v4 + 1) M hf)
  have hB167 : ∀ (g154 : Int → Int → Mem → Option (Int × Mem)) (hg154 : ∀ (v1 v3 : Int) (M : Mem), g154 v1 v3 M = some (r, M') → WW p l e (zrm 5 109) s m args below meth c D cas ad (zA ad) 5 0 0 (MQ below (zQl D cas ad r M') args s 0 0 (zA ad)) 154 [(0, .ref (ad 0)), (1, .long (zJ v1)), (3, .int (zI v3))] [] M) (n : Nat) (v1 v3 v4 : Int) (M : Mem), f_L_all_b167 g154 n v1 v3 v4 M = some (r, M') → WW p l e (zrm 5 109) s m args below meth c D cas ad (zA ad) 5 0 0 (MQ below (zQl D cas ad r M') args s 0 0 (zA ad)) 167 [(0, .ref (ad 0)), (1, .long (zJ v1)), (3, .int (zI v3)), (4, .int (zI v4))] [] M := by
    intro g154 hg154 n
    induction n with
    | zero => intro v1 v3 v4 M hf; exact absurd hf (by unfold f_L_all_b167; simp)
    | succ n ih =>
      intro v1 v3 v4 M hf
      unfold f_L_all_b167 at hf
      refine R_iload X 3 dL_all_167 rfl ?_
      refine R_bipush X dL_all_169 (by decide +kernel) ?_
      obtain ⟨hq37, hf⟩ := zgrd hf
      refine R_icmp_ge X 218 ⟨hq37, (by decide)⟩ dL_all_171 (by decide) (fun c45 => ?_) (fun c45 => ?_)
      · have hf := zthen hf c45
        refine R_iinc X (lv' := [(3, .int (zI (v3 + 1))), (0, .ref (ad 0)), (1, .long (zJ v1)), (4, .int (zI v4))]) 2 dL_all_218 rfl (by decide) rfl ?_
        refine R_goto X 154 dL_all_221 (by decide) ?_
        exact R_sub [1, 2, 0] rfl (hg154 v1 (v3 + 1) M hf)
      · have hf := zelse hf c45
        refine R_ldc2 X (n := 31) wk_L_10 (by decide +kernel) dL_all_174 ?_
        refine R_lload_n X 1 dL_all_177 rfl rfl ?_
        refine R_lmul X dL_all_178 ?_
        refine R_ldc2 X (n := 7) wk_L_29 (by decide +kernel) dL_all_179 ?_
        refine R_aload_n X 0 dL_all_182 rfl rfl ?_
        refine R_iload_n X 2 dL_all_183 rfl rfl ?_
        refine R_iload X 3 dL_all_184 rfl ?_
        obtain ⟨r38, M39, hc40, hf⟩ := zbnd_some hf
        refine R_callVi X (av := [.int (zI v3), .int (zI v4)]) (rest := [.long (zJ 7), .long (zJ (31 * v1))]) (c_X9_remembered l D cas ad hi hc40) zy_X9_remembered lc_0 rfl rfl wm_L_31 rfl rfl ⟨Nat.le_of_ble_eq_true rfl, Nat.le_of_ble_eq_true rfl⟩ ⟨Nat.le_refl _, Nat.le_refl _⟩ (Nat.le_of_ble_eq_true rfl) dL_all_186 ?_
        refine R_i2l X dL_all_189 ?_
        refine R_lmul X dL_all_190 ?_
        refine R_ladd X dL_all_191 ?_
        refine R_iload X 3 dL_all_192 rfl ?_
        refine R_iconst X dL_all_194 ?_
        refine R_icmp_ge X 208 ⟨hq37, (by decide)⟩ dL_all_195 (by decide) (fun c44 => ?_) (fun c44 => ?_)
        · have hf := zthen hf c44
          refine R_iconst X dL_all_208 ?_
          exact R_sub [0, 2, 3] rfl (hB209 g154 hg154 (f_L_all_b167 g154 n) ih v3 v4 0 ((31 * v1) + (7 * (i2l r38))) M39 hf)
        · have hf := zelse hf c44
          refine R_aload_n X 0 dL_all_198 rfl rfl ?_
          refine R_iload_n X 2 dL_all_199 rfl rfl ?_
          refine R_iload X 3 dL_all_200 rfl ?_
          obtain ⟨r41, M42, hc43, hf⟩ := zbnd_some hf
          refine R_callVi X (av := [.int (zI v3), .int (zI v4)]) (rest := [.long (zJ ((31 * v1) + (7 * (i2l r38))))]) (c_X9_reader l D cas ad hi hc43) zy_X9_reader lc_0 rfl rfl wm_L_34 rfl rfl ⟨Nat.le_of_ble_eq_true rfl, Nat.le_of_ble_eq_true rfl⟩ ⟨Nat.le_refl _, Nat.le_refl _⟩ (Nat.le_of_ble_eq_true rfl) dL_all_202 ?_
          refine R_goto X 209 dL_all_205 (by decide) ?_
          exact R_sub [0, 2, 3] rfl (hB209 g154 hg154 (f_L_all_b167 g154 n) ih v3 v4 r41 ((31 * v1) + (7 * (i2l r38))) M42 hf)
  have hB154 : ∀ (n : Nat) (v1 v3 : Int) (M : Mem), f_L_all_b154 n v1 v3 M = some (r, M') → WW p l e (zrm 5 109) s m args below meth c D cas ad (zA ad) 5 0 0 (MQ below (zQl D cas ad r M') args s 0 0 (zA ad)) 154 [(0, .ref (ad 0)), (1, .long (zJ v1)), (3, .int (zI v3))] [] M := by
    intro n
    induction n with
    | zero => intro v1 v3 M hf; exact absurd hf (by unfold f_L_all_b154; simp)
    | succ n ih =>
      intro v1 v3 M hf
      unfold f_L_all_b154 at hf
      refine R_iload_n X 2 dL_all_154 rfl rfl ?_
      refine R_aload_n X 0 dL_all_155 rfl rfl ?_
      refine R_bipush X dL_all_156 (by decide +kernel) ?_
      obtain ⟨r25, M26, hc27, hf⟩ := zbnd_some hf
      refine R_callVi X (av := [.int (zI 6)]) (rest := [.int (zI v3)]) (c_X9_count l D cas ad hi hc27) zy_X9_count lc_0 rfl rfl wm_L_12 rfl rfl ⟨Nat.le_of_ble_eq_true rfl, Nat.le_of_ble_eq_true rfl⟩ ⟨Nat.le_refl _, Nat.le_refl _⟩ (Nat.le_of_ble_eq_true rfl) dL_all_158 ?_
      obtain ⟨hq28, hf⟩ := zgrd hf
      obtain ⟨hq29, hf⟩ := zgrd hf
      refine R_icmp_ge X 224 ⟨hq28, hq29⟩ dL_all_161 (by decide) (fun c30 => ?_) (fun c30 => ?_)
      · have hf := zthen hf c30
        refine R_lload_n X 1 dL_all_224 rfl rfl ?_
        exact R_lret X hr hk0 dL_all_225 hf
      · have hf := zelse hf c30
        refine R_iconst X dL_all_164 ?_
        refine R_istore X (lv' := [(4, .int (zI 0)), (0, .ref (ad 0)), (1, .long (zJ v1)), (3, .int (zI v3))]) dL_all_165 (by decide) rfl ?_
        exact R_sub [1, 2, 3, 0] rfl (hB167 (f_L_all_b154 n) ih 100000 v1 v3 0 M26 hf)
  have hB120 : ∀ (n : Nat) (v1 v3 : Int) (M : Mem), f_L_all_b120 n v1 v3 M = some (r, M') → WW p l e (zrm 5 109) s m args below meth c D cas ad (zA ad) 5 0 0 (MQ below (zQl D cas ad r M') args s 0 0 (zA ad)) 120 [(0, .ref (ad 0)), (1, .long (zJ v1)), (3, .int (zI v3))] [] M := by
    intro n
    induction n with
    | zero => intro v1 v3 M hf; exact absurd hf (by unfold f_L_all_b120; simp)
    | succ n ih =>
      intro v1 v3 M hf
      unfold f_L_all_b120 at hf
      refine R_iload_n X 2 dL_all_120 rfl rfl ?_
      refine R_bipush X dL_all_121 (by decide +kernel) ?_
      obtain ⟨hq13, hf⟩ := zgrd hf
      refine R_icmp_ge X 152 ⟨hq13, (by decide)⟩ dL_all_123 (by decide) (fun c18 => ?_) (fun c18 => ?_)
      · have hf := zthen hf c18
        refine R_iconst X dL_all_152 ?_
        refine R_istore_n X (lv' := [(3, .int (zI 0)), (0, .ref (ad 0)), (1, .long (zJ v1))]) dL_all_153 rfl (by decide) rfl ?_
        exact R_sub [1, 2, 0] rfl (hB154 100000 v1 0 M hf)
      · have hf := zelse hf c18
        refine R_ldc2 X (n := 31) wk_L_10 (by decide +kernel) dL_all_126 ?_
        refine R_lload_n X 1 dL_all_129 rfl rfl ?_
        refine R_lmul X dL_all_130 ?_
        refine R_aload_n X 0 dL_all_131 rfl rfl ?_
        refine R_iload_n X 2 dL_all_132 rfl rfl ?_
        refine R_bipush X dL_all_133 (by decide +kernel) ?_
        refine R_irem X ⟨⟨hq13, (by decide)⟩, (by decide)⟩ dL_all_135 ?_
        refine R_iload_n X 2 dL_all_136 rfl rfl ?_
        refine R_bipush X dL_all_137 (by decide +kernel) ?_
        refine R_idiv X ⟨⟨hq13, (by decide)⟩, (by decide)⟩ dL_all_139 ?_
        obtain ⟨r14, M15, hc16, hf⟩ := zbnd_some hf
        refine R_callVi X (av := [.int (zI (v3.tmod 16)), .int (zI (v3.tdiv 16))]) (rest := [.long (zJ (31 * v1))]) (c_X9_shard l D cas ad hi hc16) zy_X9_shard lc_0 rfl rfl wm_L_26 rfl rfl ⟨Nat.le_of_ble_eq_true rfl, Nat.le_of_ble_eq_true rfl⟩ ⟨Nat.le_refl _, Nat.le_refl _⟩ (Nat.le_of_ble_eq_true rfl) dL_all_140 ?_
        refine R_i2l X dL_all_143 ?_
        refine R_ladd X dL_all_144 ?_
        obtain ⟨x17, ex17, hf⟩ := zlt_some hf
        refine R_lstore_nX X (lv' := [(1, .long (zJ x17)), (0, .ref (ad 0)), (3, .int (zI v3))]) ex17 dL_all_145 rfl (by decide) rfl ?_
        refine R_iinc X (lv' := [(3, .int (zI (v3 + 1))), (1, .long (zJ x17)), (0, .ref (ad 0))]) 2 dL_all_146 rfl (by decide) rfl ?_
        refine R_goto X 120 dL_all_149 (by decide) ?_
        exact R_sub [2, 1, 0] rfl (ih x17 (v3 + 1) M15 hf)
  have hB33 : ∀ (n : Nat) (v1 v3 : Int) (M : Mem), f_L_all_b33 n v1 v3 M = some (r, M') → WW p l e (zrm 5 109) s m args below meth c D cas ad (zA ad) 5 0 0 (MQ below (zQl D cas ad r M') args s 0 0 (zA ad)) 33 [(0, .ref (ad 0)), (1, .long (zJ v1)), (3, .int (zI v3))] [] M := by
    intro n
    induction n with
    | zero => intro v1 v3 M hf; exact absurd hf (by unfold f_L_all_b33; simp)
    | succ n ih =>
      intro v1 v3 M hf
      unfold f_L_all_b33 at hf
      refine R_iload_n X 2 dL_all_33 rfl rfl ?_
      refine R_aload_n X 0 dL_all_34 rfl rfl ?_
      refine R_iconst X dL_all_35 ?_
      obtain ⟨r7, M8, hc9, hf⟩ := zbnd_some hf
      refine R_callVi X (av := [.int (zI 3)]) (rest := [.int (zI v3)]) (c_X9_count l D cas ad hi hc9) zy_X9_count lc_0 rfl rfl wm_L_12 rfl rfl ⟨Nat.le_of_ble_eq_true rfl, Nat.le_of_ble_eq_true rfl⟩ ⟨Nat.le_refl _, Nat.le_refl _⟩ (Nat.le_of_ble_eq_true rfl) dL_all_36 ?_
      obtain ⟨hq10, hf⟩ := zgrd hf
      obtain ⟨hq11, hf⟩ := zgrd hf
      refine R_icmp_ge X 118 ⟨hq10, hq11⟩ dL_all_39 (by decide) (fun c12 => ?_) (fun c12 => ?_)
      · have hf := zthen hf c12
        refine R_iconst X dL_all_118 ?_
        refine R_istore_n X (lv' := [(3, .int (zI 0)), (0, .ref (ad 0)), (1, .long (zJ v1))]) dL_all_119 rfl (by decide) rfl ?_
        exact R_sub [1, 2, 0] rfl (hB120 100000 v1 0 M8 hf)
      · have hf := zelse hf c12
        refine R_iconst X dL_all_42 ?_
        refine R_istore X (lv' := [(4, .int (zI 0)), (0, .ref (ad 0)), (1, .long (zJ v1)), (3, .int (zI v3))]) dL_all_43 (by decide) rfl ?_
        exact R_sub [1, 2, 3, 0] rfl (hB45 (f_L_all_b33 n) ih 100000 v1 v3 0 M8 hf)
  have hB6 : ∀ (n : Nat) (v1 v3 : Int) (M : Mem), f_L_all_b6 n v1 v3 M = some (r, M') → WW p l e (zrm 5 109) s m args below meth c D cas ad (zA ad) 5 0 0 (MQ below (zQl D cas ad r M') args s 0 0 (zA ad)) 6 [(0, .ref (ad 0)), (1, .long (zJ v1)), (3, .int (zI v3))] [] M := by
    intro n
    induction n with
    | zero => intro v1 v3 M hf; exact absurd hf (by unfold f_L_all_b6; simp)
    | succ n ih =>
      intro v1 v3 M hf
      unfold f_L_all_b6 at hf
      refine R_iload_n X 2 dL_all_6 rfl rfl ?_
      refine R_bipush X dL_all_7 (by decide +kernel) ?_
      obtain ⟨hq1, hf⟩ := zgrd hf
      refine R_icmp_ge X 31 ⟨hq1, (by decide)⟩ dL_all_9 (by decide) (fun c6 => ?_) (fun c6 => ?_)
      · have hf := zthen hf c6
        refine R_iconst X dL_all_31 ?_
        refine R_istore_n X (lv' := [(3, .int (zI 0)), (0, .ref (ad 0)), (1, .long (zJ v1))]) dL_all_32 rfl (by decide) rfl ?_
        exact R_sub [1, 2, 0] rfl (hB33 100000 v1 0 M hf)
      · have hf := zelse hf c6
        refine R_ldc2 X (n := 31) wk_L_10 (by decide +kernel) dL_all_12 ?_
        refine R_lload_n X 1 dL_all_15 rfl rfl ?_
        refine R_lmul X dL_all_16 ?_
        refine R_aload_n X 0 dL_all_17 rfl rfl ?_
        refine R_iload_n X 2 dL_all_18 rfl rfl ?_
        obtain ⟨r2, M3, hc4, hf⟩ := zbnd_some hf
        refine R_callVi X (av := [.int (zI v3)]) (rest := [.long (zJ (31 * v1))]) (c_X9_count l D cas ad hi hc4) zy_X9_count lc_0 rfl rfl wm_L_12 rfl rfl ⟨Nat.le_of_ble_eq_true rfl, Nat.le_of_ble_eq_true rfl⟩ ⟨Nat.le_refl _, Nat.le_refl _⟩ (Nat.le_of_ble_eq_true rfl) dL_all_19 ?_
        refine R_i2l X dL_all_22 ?_
        refine R_ladd X dL_all_23 ?_
        obtain ⟨x5, ex5, hf⟩ := zlt_some hf
        refine R_lstore_nX X (lv' := [(1, .long (zJ x5)), (0, .ref (ad 0)), (3, .int (zI v3))]) ex5 dL_all_24 rfl (by decide) rfl ?_
        refine R_iinc X (lv' := [(3, .int (zI (v3 + 1))), (1, .long (zJ x5)), (0, .ref (ad 0))]) 2 dL_all_25 rfl (by decide) rfl ?_
        refine R_goto X 6 dL_all_28 (by decide) ?_
        exact R_sub [2, 1, 0] rfl (ih x5 (v3 + 1) M3 hf)
  unfold f_L_all at hf
  refine (?_ : WW p l e (zrm 5 109) s m args below meth c D cas ad (zA ad) 5 0 0 (MQ below (zQl D cas ad r M') args s 0 0 (zA ad)) 0 [(0, .ref (ad 0))] [] M)
  refine R_ldc2 X (n := 19) wk_L_8 (by decide +kernel) dL_all_0 ?_
  refine R_lstore_n X (lv' := [(1, .long (zJ 19)), (0, .ref (ad 0))]) dL_all_3 rfl (by decide) rfl ?_
  refine R_iconst X dL_all_4 ?_
  refine R_istore_n X (lv' := [(3, .int (zI 0)), (1, .long (zJ 19)), (0, .ref (ad 0))]) dL_all_5 rfl (by decide) rfl ?_
  exact R_sub [2, 1, 0] rfl (hB6 100000 19 0 M hf)
theorem dL_isForetold_0 : decode cL_isForetold 0 = .ok (.aload_n 0, 1) := by decide +kernel
theorem dL_isForetold_1 : decode cL_isForetold 1 = .ok (.invokestatic 48, 3) := by decide +kernel
theorem dL_isForetold_4 : decode cL_isForetold 4 = .ok (.lstore_n 2, 1) := by decide +kernel
theorem dL_isForetold_5 : decode cL_isForetold 5 = .ok (.iload_n 1, 1) := by decide +kernel
theorem dL_isForetold_6 : decode cL_isForetold 6 = .ok (.bipush 16, 2) := by decide +kernel
theorem dL_isForetold_8 : decode cL_isForetold 8 = .ok (.invokestatic 45, 3) := by decide +kernel
theorem dL_isForetold_11 : decode cL_isForetold 11 = .ok (.istore 4, 2) := by decide +kernel
theorem dL_isForetold_13 : decode cL_isForetold 13 = .ok (.aload_n 0, 1) := by decide +kernel
theorem dL_isForetold_14 : decode cL_isForetold 14 = .ok (.iload 4, 2) := by decide +kernel
theorem dL_isForetold_16 : decode cL_isForetold 16 = .ok (.invokevirtual 59, 3) := by decide +kernel
theorem dL_isForetold_19 : decode cL_isForetold 19 = .ok (.istore 5, 2) := by decide +kernel
theorem dL_isForetold_21 : decode cL_isForetold 21 = .ok (.aload_n 0, 1) := by decide +kernel
theorem dL_isForetold_22 : decode cL_isForetold 22 = .ok (.invokestatic 48, 3) := by decide +kernel
theorem dL_isForetold_25 : decode cL_isForetold 25 = .ok (.lload_n 2, 1) := by decide +kernel
theorem dL_isForetold_26 : decode cL_isForetold 26 = .ok (.lcmp, 1) := by decide +kernel
theorem dL_isForetold_27 : decode cL_isForetold 27 = .ok (.ifCond .eq 5, 3) := by decide +kernel
theorem dL_isForetold_30 : decode cL_isForetold 30 = .ok (.iconst 0, 1) := by decide +kernel
theorem dL_isForetold_31 : decode cL_isForetold 31 = .ok (.ireturn, 1) := by decide +kernel
theorem dL_isForetold_32 : decode cL_isForetold 32 = .ok (.aload_n 0, 1) := by decide +kernel
theorem dL_isForetold_33 : decode cL_isForetold 33 = .ok (.iload 4, 2) := by decide +kernel
theorem dL_isForetold_35 : decode cL_isForetold 35 = .ok (.iconst 2, 1) := by decide +kernel
theorem dL_isForetold_36 : decode cL_isForetold 36 = .ok (.invokevirtual 26, 3) := by decide +kernel
theorem dL_isForetold_39 : decode cL_isForetold 39 = .ok (.istore 6, 2) := by decide +kernel
theorem dL_isForetold_41 : decode cL_isForetold 41 = .ok (.aload_n 0, 1) := by decide +kernel
theorem dL_isForetold_42 : decode cL_isForetold 42 = .ok (.iload 4, 2) := by decide +kernel
theorem dL_isForetold_44 : decode cL_isForetold 44 = .ok (.iconst 0, 1) := by decide +kernel
theorem dL_isForetold_45 : decode cL_isForetold 45 = .ok (.invokevirtual 26, 3) := by decide +kernel
theorem dL_isForetold_48 : decode cL_isForetold 48 = .ok (.istore 7, 2) := by decide +kernel
theorem dL_isForetold_50 : decode cL_isForetold 50 = .ok (.iload 5, 2) := by decide +kernel
theorem dL_isForetold_52 : decode cL_isForetold 52 = .ok (.ifCond .ge 8, 3) := by decide +kernel
theorem dL_isForetold_55 : decode cL_isForetold 55 = .ok (.bipush 20, 2) := by decide +kernel
theorem dL_isForetold_57 : decode cL_isForetold 57 = .ok (.goto 5, 3) := by decide +kernel
theorem dL_isForetold_60 : decode cL_isForetold 60 = .ok (.iload 5, 2) := by decide +kernel
theorem dL_isForetold_62 : decode cL_isForetold 62 = .ok (.istore 8, 2) := by decide +kernel
theorem dL_isForetold_64 : decode cL_isForetold 64 = .ok (.iload 8, 2) := by decide +kernel
theorem dL_isForetold_66 : decode cL_isForetold 66 = .ok (.iconst 1, 1) := by decide +kernel
theorem dL_isForetold_67 : decode cL_isForetold 67 = .ok (.if_icmp .le 47, 3) := by decide +kernel
theorem dL_isForetold_70 : decode cL_isForetold 70 = .ok (.aload_n 0, 1) := by decide +kernel
theorem dL_isForetold_71 : decode cL_isForetold 71 = .ok (.iload 8, 2) := by decide +kernel
theorem dL_isForetold_73 : decode cL_isForetold 73 = .ok (.iconst 1, 1) := by decide +kernel
theorem dL_isForetold_74 : decode cL_isForetold 74 = .ok (.isub, 1) := by decide +kernel
theorem dL_isForetold_75 : decode cL_isForetold 75 = .ok (.invokevirtual 62, 3) := by decide +kernel
theorem dL_isForetold_78 : decode cL_isForetold 78 = .ok (.ifCond .lt 34, 3) := by decide +kernel
theorem dL_isForetold_81 : decode cL_isForetold 81 = .ok (.aload_n 0, 1) := by decide +kernel
theorem dL_isForetold_82 : decode cL_isForetold 82 = .ok (.iload 4, 2) := by decide +kernel
theorem dL_isForetold_84 : decode cL_isForetold 84 = .ok (.iconst 2, 1) := by decide +kernel
theorem dL_isForetold_85 : decode cL_isForetold 85 = .ok (.invokevirtual 26, 3) := by decide +kernel
theorem dL_isForetold_88 : decode cL_isForetold 88 = .ok (.iload 6, 2) := by decide +kernel
theorem dL_isForetold_90 : decode cL_isForetold 90 = .ok (.if_icmp .ne 22, 3) := by decide +kernel
theorem dL_isForetold_93 : decode cL_isForetold 93 = .ok (.aload_n 0, 1) := by decide +kernel
theorem dL_isForetold_94 : decode cL_isForetold 94 = .ok (.iload 4, 2) := by decide +kernel
theorem dL_isForetold_96 : decode cL_isForetold 96 = .ok (.iconst 0, 1) := by decide +kernel
theorem dL_isForetold_97 : decode cL_isForetold 97 = .ok (.invokevirtual 26, 3) := by decide +kernel
theorem dL_isForetold_100 : decode cL_isForetold 100 = .ok (.iload 7, 2) := by decide +kernel
theorem dL_isForetold_102 : decode cL_isForetold 102 = .ok (.if_icmp .ne 10, 3) := by decide +kernel
theorem dL_isForetold_105 : decode cL_isForetold 105 = .ok (.aload_n 0, 1) := by decide +kernel
theorem dL_isForetold_106 : decode cL_isForetold 106 = .ok (.invokevirtual 55, 3) := by decide +kernel
theorem dL_isForetold_109 : decode cL_isForetold 109 = .ok (.ifCond .ge 5, 3) := by decide +kernel
theorem dL_isForetold_112 : decode cL_isForetold 112 = .ok (.iconst 0, 1) := by decide +kernel
theorem dL_isForetold_113 : decode cL_isForetold 113 = .ok (.ireturn, 1) := by decide +kernel
theorem dL_isForetold_114 : decode cL_isForetold 114 = .ok (.aload_n 0, 1) := by decide +kernel
theorem dL_isForetold_115 : decode cL_isForetold 115 = .ok (.iload 8, 2) := by decide +kernel
theorem dL_isForetold_117 : decode cL_isForetold 117 = .ok (.invokevirtual 62, 3) := by decide +kernel
theorem dL_isForetold_120 : decode cL_isForetold 120 = .ok (.ifCond .lt 56, 3) := by decide +kernel
theorem dL_isForetold_123 : decode cL_isForetold 123 = .ok (.aload_n 0, 1) := by decide +kernel
theorem dL_isForetold_124 : decode cL_isForetold 124 = .ok (.iload 4, 2) := by decide +kernel
theorem dL_isForetold_126 : decode cL_isForetold 126 = .ok (.iconst 2, 1) := by decide +kernel
theorem dL_isForetold_127 : decode cL_isForetold 127 = .ok (.invokevirtual 26, 3) := by decide +kernel
theorem dL_isForetold_130 : decode cL_isForetold 130 = .ok (.iload 6, 2) := by decide +kernel
theorem dL_isForetold_132 : decode cL_isForetold 132 = .ok (.iload 5, 2) := by decide +kernel
theorem dL_isForetold_134 : decode cL_isForetold 134 = .ok (.ifCond .ge 7, 3) := by decide +kernel
theorem dL_isForetold_137 : decode cL_isForetold 137 = .ok (.iconst 0, 1) := by decide +kernel
theorem dL_isForetold_138 : decode cL_isForetold 138 = .ok (.goto 4, 3) := by decide +kernel
theorem dL_isForetold_141 : decode cL_isForetold 141 = .ok (.iconst 1, 1) := by decide +kernel
theorem dL_isForetold_142 : decode cL_isForetold 142 = .ok (.iadd, 1) := by decide +kernel
theorem dL_isForetold_143 : decode cL_isForetold 143 = .ok (.if_icmp .ne 33, 3) := by decide +kernel
theorem dL_isForetold_146 : decode cL_isForetold 146 = .ok (.aload_n 0, 1) := by decide +kernel
theorem dL_isForetold_147 : decode cL_isForetold 147 = .ok (.iload 4, 2) := by decide +kernel
theorem dL_isForetold_149 : decode cL_isForetold 149 = .ok (.iconst 0, 1) := by decide +kernel
theorem dL_isForetold_150 : decode cL_isForetold 150 = .ok (.invokevirtual 26, 3) := by decide +kernel
theorem dL_isForetold_153 : decode cL_isForetold 153 = .ok (.iload 7, 2) := by decide +kernel
theorem dL_isForetold_155 : decode cL_isForetold 155 = .ok (.if_icmp .ne 7, 3) := by decide +kernel
theorem dL_isForetold_158 : decode cL_isForetold 158 = .ok (.iconst 1, 1) := by decide +kernel
theorem dL_isForetold_159 : decode cL_isForetold 159 = .ok (.goto 4, 3) := by decide +kernel
theorem dL_isForetold_162 : decode cL_isForetold 162 = .ok (.iconst 0, 1) := by decide +kernel
theorem dL_isForetold_163 : decode cL_isForetold 163 = .ok (.iload 5, 2) := by decide +kernel
theorem dL_isForetold_165 : decode cL_isForetold 165 = .ok (.ifCond .ge 7, 3) := by decide +kernel
theorem dL_isForetold_168 : decode cL_isForetold 168 = .ok (.iconst 1, 1) := by decide +kernel
theorem dL_isForetold_169 : decode cL_isForetold 169 = .ok (.goto 4, 3) := by decide +kernel
theorem dL_isForetold_172 : decode cL_isForetold 172 = .ok (.iconst 0, 1) := by decide +kernel
theorem dL_isForetold_173 : decode cL_isForetold 173 = .ok (.if_icmp .eq 5, 3) := by decide +kernel
theorem dL_isForetold_176 : decode cL_isForetold 176 = .ok (.iconst 0, 1) := by decide +kernel
theorem dL_isForetold_177 : decode cL_isForetold 177 = .ok (.ireturn, 1) := by decide +kernel
theorem dL_isForetold_178 : decode cL_isForetold 178 = .ok (.aload_n 0, 1) := by decide +kernel
theorem dL_isForetold_179 : decode cL_isForetold 179 = .ok (.invokevirtual 55, 3) := by decide +kernel
theorem dL_isForetold_182 : decode cL_isForetold 182 = .ok (.ifCond .lt 16, 3) := by decide +kernel
theorem dL_isForetold_185 : decode cL_isForetold 185 = .ok (.aload_n 0, 1) := by decide +kernel
theorem dL_isForetold_186 : decode cL_isForetold 186 = .ok (.invokestatic 48, 3) := by decide +kernel
theorem dL_isForetold_189 : decode cL_isForetold 189 = .ok (.lload_n 2, 1) := by decide +kernel
theorem dL_isForetold_190 : decode cL_isForetold 190 = .ok (.lcmp, 1) := by decide +kernel
theorem dL_isForetold_191 : decode cL_isForetold 191 = .ok (.ifCond .ne 7, 3) := by decide +kernel
theorem dL_isForetold_194 : decode cL_isForetold 194 = .ok (.iconst 1, 1) := by decide +kernel
theorem dL_isForetold_195 : decode cL_isForetold 195 = .ok (.goto 4, 3) := by decide +kernel
theorem dL_isForetold_198 : decode cL_isForetold 198 = .ok (.iconst 0, 1) := by decide +kernel
theorem dL_isForetold_199 : decode cL_isForetold 199 = .ok (.ireturn, 1) := by decide +kernel
set_option maxRecDepth 100000 in
set_option maxHeartbeats 4000000 in
theorem c_L_isForetold (l : Launch) (D : va_G) (cas : Nat → ClassId) (ad : Nat → Nat) (hi : zInj ad) {v1 : Int}  {r : Int} {M M' : Mem} (hf : f_L_isForetold v1 M = some (r, M')) : zMi l D cas ad yL_isForetold cL_isForetold 9 (some .boolean) 7 155 [.ref (ad 0), .int (zI v1)] M r M' := by
  refine zbody (by decide) (Nat.le_of_ble_eq_true rfl) hi ?_
  intro p e s m args below meth c X hr hk0
  have X : zX p s m args c cL_isForetold "ShardTrailsLaw" 9 D cas ad (zA ad) := X
  have hB112 : ∀ (M : Mem), f_L_isForetold_b112 M = some (r, M') → WW p l e (zrm 7 155) s m args below meth c D cas ad (zA ad) 9 0 0 (MQ below (zQi D cas ad r M') args s 0 0 (zA ad)) 112 [] [] M := by
    intro M hf
    unfold f_L_isForetold_b112 at hf
    refine R_iconst X dL_isForetold_112 ?_
    exact R_zret X (Or.inl rfl) hr hk0 dL_isForetold_113 hf
  have hB176 : ∀ (M : Mem), f_L_isForetold_b176 M = some (r, M') → WW p l e (zrm 7 155) s m args below meth c D cas ad (zA ad) 9 0 0 (MQ below (zQi D cas ad r M') args s 0 0 (zA ad)) 176 [] [] M := by
    intro M hf
    unfold f_L_isForetold_b176 at hf
    refine R_iconst X dL_isForetold_176 ?_
    exact R_zret X (Or.inl rfl) hr hk0 dL_isForetold_177 hf
  have hB199 : ∀ (t1 : Int) (M : Mem), f_L_isForetold_b199 t1 M = some (r, M') → WW p l e (zrm 7 155) s m args below meth c D cas ad (zA ad) 9 0 0 (MQ below (zQi D cas ad r M') args s 0 0 (zA ad)) 199 [] [.int (zI t1)] M := by
    intro t1 M hf
    unfold f_L_isForetold_b199 at hf
    obtain ⟨hq76, hf⟩ := zgrd hf
    exact R_zret X hq76 hr hk0 dL_isForetold_199 hf
  have hB198 : ∀ (M : Mem), f_L_isForetold_b198 M = some (r, M') → WW p l e (zrm 7 155) s m args below meth c D cas ad (zA ad) 9 0 0 (MQ below (zQi D cas ad r M') args s 0 0 (zA ad)) 198 [] [] M := by
    intro M hf
    unfold f_L_isForetold_b198 at hf
    refine R_iconst X dL_isForetold_198 ?_
    exact R_sub [] rfl (hB199 0 M hf)
  have hB173 : ∀ (v2 t2 t1 : Int) (M : Mem), f_L_isForetold_b173 v2 t2 t1 M = some (r, M') → WW p l e (zrm 7 155) s m args below meth c D cas ad (zA ad) 9 0 0 (MQ below (zQi D cas ad r M') args s 0 0 (zA ad)) 173 [(0, .ref (ad 0)), (2, .long (zJ v2))] [.int (zI t2), .int (zI t1)] M := by
    intro v2 t2 t1 M hf
    unfold f_L_isForetold_b173 at hf
    obtain ⟨hq64, hf⟩ := zgrd hf
    refine R_icmp_eqW X 178 hq64 dL_isForetold_173 (by decide) (fun c75 => ?_) (fun c75 => ?_)
    · have hf := zthen hf c75
      refine R_aload_n X 0 dL_isForetold_178 rfl rfl ?_
      obtain ⟨r65, M66, hc67, hf⟩ := zbnd_some hf
      refine R_callVi X (av := []) (rest := []) (c_X9_undo l D cas ad hi hc67) zy_X9_undo lc_0 rfl rfl wm_L_55 rfl rfl ⟨Nat.le_of_ble_eq_true rfl, Nat.le_of_ble_eq_true rfl⟩ ⟨Nat.le_refl _, Nat.le_refl _⟩ (Nat.le_of_ble_eq_true rfl) dL_isForetold_179 ?_
      obtain ⟨hq68, hf⟩ := zgrd hf
      refine R_if_lt X 198 hq68 dL_isForetold_182 (by decide) (fun c74 => ?_) (fun c74 => ?_)
      · have hf := zthen hf c74
        exact R_sub [] rfl (hB198 M66 hf)
      · have hf := zelse hf c74
        refine R_aload_n X 0 dL_isForetold_185 rfl rfl ?_
        obtain ⟨r69, M70, hc71, hf⟩ := zbnd_some hf
        refine R_callSl X (av := [.ref (ad 0)]) (rest := []) (c_L_all l D cas ad hi hc71) zy_L_all wm_L_48 rfl rfl ⟨Nat.le_of_ble_eq_true rfl, Nat.le_of_ble_eq_true rfl⟩ ⟨Nat.le_refl _, Nat.le_refl _⟩ (Nat.le_of_ble_eq_true rfl) dL_isForetold_186 ?_
        refine R_lload_n X 1 dL_isForetold_189 rfl rfl ?_
        refine R_lcmp X dL_isForetold_190 ?_
        obtain ⟨hq72, hf⟩ := zgrd hf
        refine R_if_ne X 198 hq72 dL_isForetold_191 (by decide) (fun c73 => ?_) (fun c73 => ?_)
        · have hf := zelse hf c73
          exact R_sub [] rfl (hB198 M70 hf)
        · have hf := zthen hf c73
          refine R_iconst X dL_isForetold_194 ?_
          refine R_goto X 199 dL_isForetold_195 (by decide) ?_
          exact R_sub [] rfl (hB199 1 M70 hf)
    · have hf := zelse hf c75
      exact R_sub [] rfl (hB176 M hf)
  have hB163 : ∀ (v2 v5 t1 : Int) (M : Mem), f_L_isForetold_b163 v2 v5 t1 M = some (r, M') → WW p l e (zrm 7 155) s m args below meth c D cas ad (zA ad) 9 0 0 (MQ below (zQi D cas ad r M') args s 0 0 (zA ad)) 163 [(0, .ref (ad 0)), (2, .long (zJ v2)), (5, .int (zI v5))] [.int (zI t1)] M := by
    intro v2 v5 t1 M hf
    unfold f_L_isForetold_b163 at hf
    refine R_iload X 2 dL_isForetold_163 rfl ?_
    obtain ⟨hq62, hf⟩ := zgrd hf
    refine R_if_ge X 172 hq62 dL_isForetold_165 (by decide) (fun c63 => ?_) (fun c63 => ?_)
    · have hf := zthen hf c63
      refine R_iconst X dL_isForetold_172 ?_
      exact R_sub [0, 1] rfl (hB173 v2 0 t1 M hf)
    · have hf := zelse hf c63
      refine R_iconst X dL_isForetold_168 ?_
      refine R_goto X 173 dL_isForetold_169 (by decide) ?_
      exact R_sub [0, 1] rfl (hB173 v2 1 t1 M hf)
  have hB142 : ∀ (v2 v4 v5 v7 t3 t2 t1 : Int) (M : Mem), f_L_isForetold_b142 v2 v4 v5 v7 t3 t2 t1 M = some (r, M') → WW p l e (zrm 7 155) s m args below meth c D cas ad (zA ad) 9 0 0 (MQ below (zQi D cas ad r M') args s 0 0 (zA ad)) 142 [(0, .ref (ad 0)), (2, .long (zJ v2)), (4, .int (zI v4)), (5, .int (zI v5)), (7, .int (zI v7))] [.int (zI t3), .int (zI t2), .int (zI t1)] M := by
    intro v2 v4 v5 v7 t3 t2 t1 M hf
    unfold f_L_isForetold_b142 at hf
    refine R_iadd X dL_isForetold_142 ?_
    obtain ⟨hq55, hf⟩ := zgrd hf
    refine R_icmp_neW X 176 hq55 dL_isForetold_143 (by decide) (fun c61 => ?_) (fun c61 => ?_)
    · have hf := zelse hf c61
      exact R_sub [] rfl (hB176 M hf)
    · have hf := zthen hf c61
      refine R_aload_n X 0 dL_isForetold_146 rfl rfl ?_
      refine R_iload X 2 dL_isForetold_147 rfl ?_
      refine R_iconst X dL_isForetold_149 ?_
      obtain ⟨r56, M57, hc58, hf⟩ := zbnd_some hf
      refine R_callVi X (av := [.int (zI v4), .int (zI 0)]) (rest := []) (c_X9_shard l D cas ad hi hc58) zy_X9_shard lc_0 rfl rfl wm_L_26 rfl rfl ⟨Nat.le_of_ble_eq_true rfl, Nat.le_of_ble_eq_true rfl⟩ ⟨Nat.le_refl _, Nat.le_refl _⟩ (Nat.le_of_ble_eq_true rfl) dL_isForetold_150 ?_
      refine R_iload X 4 dL_isForetold_153 rfl ?_
      obtain ⟨hq59, hf⟩ := zgrd hf
      refine R_icmp_neW X 162 hq59 dL_isForetold_155 (by decide) (fun c60 => ?_) (fun c60 => ?_)
      · have hf := zelse hf c60
        refine R_iconst X dL_isForetold_162 ?_
        exact R_sub [0, 1, 3] rfl (hB163 v2 v5 0 M57 hf)
      · have hf := zthen hf c60
        refine R_iconst X dL_isForetold_158 ?_
        refine R_goto X 163 dL_isForetold_159 (by decide) ?_
        exact R_sub [0, 1, 3] rfl (hB163 v2 v5 1 M57 hf)
  have hB114 : ∀ (v2 v4 v5 v6 v7 v8 : Int) (M : Mem), f_L_isForetold_b114 v2 v4 v5 v6 v7 v8 M = some (r, M') → WW p l e (zrm 7 155) s m args below meth c D cas ad (zA ad) 9 0 0 (MQ below (zQi D cas ad r M') args s 0 0 (zA ad)) 114 [(0, .ref (ad 0)), (2, .long (zJ v2)), (4, .int (zI v4)), (5, .int (zI v5)), (6, .int (zI v6)), (7, .int (zI v7)), (8, .int (zI v8))] [] M := by
    intro v2 v4 v5 v6 v7 v8 M hf
    unfold f_L_isForetold_b114 at hf
    refine R_aload_n X 0 dL_isForetold_114 rfl rfl ?_
    refine R_iload X 6 dL_isForetold_115 rfl ?_
    obtain ⟨r45, M46, hc47, hf⟩ := zbnd_some hf
    refine R_callVi X (av := [.int (zI v8)]) (rest := []) (c_X9_pass l D cas ad hi hc47) zy_X9_pass lc_0 rfl rfl wm_L_62 rfl rfl ⟨Nat.le_of_ble_eq_true rfl, Nat.le_of_ble_eq_true rfl⟩ ⟨Nat.le_refl _, Nat.le_refl _⟩ (Nat.le_of_ble_eq_true rfl) dL_isForetold_117 ?_
    obtain ⟨hq48, hf⟩ := zgrd hf
    refine R_if_lt X 176 hq48 dL_isForetold_120 (by decide) (fun c54 => ?_) (fun c54 => ?_)
    · have hf := zthen hf c54
      exact R_sub [] rfl (hB176 M46 hf)
    · have hf := zelse hf c54
      refine R_aload_n X 0 dL_isForetold_123 rfl rfl ?_
      refine R_iload X 2 dL_isForetold_124 rfl ?_
      refine R_iconst X dL_isForetold_126 ?_
      obtain ⟨r49, M50, hc51, hf⟩ := zbnd_some hf
      refine R_callVi X (av := [.int (zI v4), .int (zI 2)]) (rest := []) (c_X9_shard l D cas ad hi hc51) zy_X9_shard lc_0 rfl rfl wm_L_26 rfl rfl ⟨Nat.le_of_ble_eq_true rfl, Nat.le_of_ble_eq_true rfl⟩ ⟨Nat.le_refl _, Nat.le_refl _⟩ (Nat.le_of_ble_eq_true rfl) dL_isForetold_127 ?_
      refine R_iload X 4 dL_isForetold_130 rfl ?_
      refine R_iload X 3 dL_isForetold_132 rfl ?_
      obtain ⟨hq52, hf⟩ := zgrd hf
      refine R_if_ge X 141 hq52 dL_isForetold_134 (by decide) (fun c53 => ?_) (fun c53 => ?_)
      · have hf := zthen hf c53
        refine R_iconst X dL_isForetold_141 ?_
        exact R_sub [0, 1, 2, 3, 5] rfl (hB142 v2 v4 v5 v7 1 v6 r49 M50 hf)
      · have hf := zelse hf c53
        refine R_iconst X dL_isForetold_137 ?_
        refine R_goto X 142 dL_isForetold_138 (by decide) ?_
        exact R_sub [0, 1, 2, 3, 5] rfl (hB142 v2 v4 v5 v7 0 v6 r49 M50 hf)
  have hB62 : ∀ (v2 v4 v5 v6 v7 t1 : Int) (M : Mem), f_L_isForetold_b62 v2 v4 v5 v6 v7 t1 M = some (r, M') → WW p l e (zrm 7 155) s m args below meth c D cas ad (zA ad) 9 0 0 (MQ below (zQi D cas ad r M') args s 0 0 (zA ad)) 62 [(0, .ref (ad 0)), (2, .long (zJ v2)), (4, .int (zI v4)), (5, .int (zI v5)), (6, .int (zI v6)), (7, .int (zI v7))] [.int (zI t1)] M := by
    intro v2 v4 v5 v6 v7 t1 M hf
    unfold f_L_isForetold_b62 at hf
    refine R_istore X (lv' := [(8, .int (zI t1)), (0, .ref (ad 0)), (2, .long (zJ v2)), (4, .int (zI v4)), (5, .int (zI v5)), (6, .int (zI v6)), (7, .int (zI v7))]) dL_isForetold_62 (by decide) rfl ?_
    refine R_iload X 0 dL_isForetold_64 rfl ?_
    refine R_iconst X dL_isForetold_66 ?_
    obtain ⟨hq23, hf⟩ := zgrd hf
    refine R_icmp_le X 114 ⟨hq23, (by decide)⟩ dL_isForetold_67 (by decide) (fun c44 => ?_) (fun c44 => ?_)
    · have hf := zthen hf c44
      exact R_sub [1, 2, 3, 4, 5, 6, 0] rfl (hB114 v2 v4 v5 v6 v7 t1 M hf)
    · have hf := zelse hf c44
      refine R_aload_n X 1 dL_isForetold_70 rfl rfl ?_
      refine R_iload X 0 dL_isForetold_71 rfl ?_
      refine R_iconst X dL_isForetold_73 ?_
      refine R_isub X dL_isForetold_74 ?_
      obtain ⟨r24, M25, hc26, hf⟩ := zbnd_some hf
      refine R_callVi X (av := [.int (zI (t1 - 1))]) (rest := []) (c_X9_pass l D cas ad hi hc26) zy_X9_pass lc_0 rfl rfl wm_L_62 rfl rfl ⟨Nat.le_of_ble_eq_true rfl, Nat.le_of_ble_eq_true rfl⟩ ⟨Nat.le_refl _, Nat.le_refl _⟩ (Nat.le_of_ble_eq_true rfl) dL_isForetold_75 ?_
      obtain ⟨hq27, hf⟩ := zgrd hf
      refine R_if_lt X 112 hq27 dL_isForetold_78 (by decide) (fun c43 => ?_) (fun c43 => ?_)
      · have hf := zthen hf c43
        exact R_sub [] rfl (hB112 M25 hf)
      · have hf := zelse hf c43
        refine R_aload_n X 1 dL_isForetold_81 rfl rfl ?_
        refine R_iload X 3 dL_isForetold_82 rfl ?_
        refine R_iconst X dL_isForetold_84 ?_
        obtain ⟨r28, M29, hc30, hf⟩ := zbnd_some hf
        refine R_callVi X (av := [.int (zI v4), .int (zI 2)]) (rest := []) (c_X9_shard l D cas ad hi hc30) zy_X9_shard lc_0 rfl rfl wm_L_26 rfl rfl ⟨Nat.le_of_ble_eq_true rfl, Nat.le_of_ble_eq_true rfl⟩ ⟨Nat.le_refl _, Nat.le_refl _⟩ (Nat.le_of_ble_eq_true rfl) dL_isForetold_85 ?_
        refine R_iload X 5 dL_isForetold_88 rfl ?_
        obtain ⟨hq31, hf⟩ := zgrd hf
        refine R_icmp_neW X 112 hq31 dL_isForetold_90 (by decide) (fun c42 => ?_) (fun c42 => ?_)
        · have hf := zelse hf c42
          exact R_sub [] rfl (hB112 M29 hf)
        · have hf := zthen hf c42
          refine R_aload_n X 1 dL_isForetold_93 rfl rfl ?_
          refine R_iload X 3 dL_isForetold_94 rfl ?_
          refine R_iconst X dL_isForetold_96 ?_
          obtain ⟨r32, M33, hc34, hf⟩ := zbnd_some hf
          refine R_callVi X (av := [.int (zI v4), .int (zI 0)]) (rest := []) (c_X9_shard l D cas ad hi hc34) zy_X9_shard lc_0 rfl rfl wm_L_26 rfl rfl ⟨Nat.le_of_ble_eq_true rfl, Nat.le_of_ble_eq_true rfl⟩ ⟨Nat.le_refl _, Nat.le_refl _⟩ (Nat.le_of_ble_eq_true rfl) dL_isForetold_97 ?_
          refine R_iload X 6 dL_isForetold_100 rfl ?_
          obtain ⟨hq35, hf⟩ := zgrd hf
          refine R_icmp_neW X 112 hq35 dL_isForetold_102 (by decide) (fun c41 => ?_) (fun c41 => ?_)
          · have hf := zelse hf c41
            exact R_sub [] rfl (hB112 M33 hf)
          · have hf := zthen hf c41
            refine R_aload_n X 1 dL_isForetold_105 rfl rfl ?_
            obtain ⟨r36, M37, hc38, hf⟩ := zbnd_some hf
            refine R_callVi X (av := []) (rest := []) (c_X9_undo l D cas ad hi hc38) zy_X9_undo lc_0 rfl rfl wm_L_55 rfl rfl ⟨Nat.le_of_ble_eq_true rfl, Nat.le_of_ble_eq_true rfl⟩ ⟨Nat.le_refl _, Nat.le_refl _⟩ (Nat.le_of_ble_eq_true rfl) dL_isForetold_106 ?_
            obtain ⟨hq39, hf⟩ := zgrd hf
            refine R_if_ge X 114 hq39 dL_isForetold_109 (by decide) (fun c40 => ?_) (fun c40 => ?_)
            · have hf := zthen hf c40
              exact R_sub [1, 2, 3, 4, 5, 6, 0] rfl (hB114 v2 v4 v5 v6 v7 t1 M37 hf)
            · have hf := zelse hf c40
              exact R_sub [] rfl (hB112 M37 hf)
  unfold f_L_isForetold at hf
  refine (?_ : WW p l e (zrm 7 155) s m args below meth c D cas ad (zA ad) 9 0 0 (MQ below (zQi D cas ad r M') args s 0 0 (zA ad)) 0 [(0, .ref (ad 0)), (1, .int (zI v1))] [] M)
  refine R_aload_n X 0 dL_isForetold_0 rfl rfl ?_
  obtain ⟨r1, M2, hc3, hf⟩ := zbnd_some hf
  refine R_callSl X (av := [.ref (ad 0)]) (rest := []) (c_L_all l D cas ad hi hc3) zy_L_all wm_L_48 rfl rfl ⟨Nat.le_of_ble_eq_true rfl, Nat.le_of_ble_eq_true rfl⟩ ⟨Nat.le_refl _, Nat.le_refl _⟩ (Nat.le_of_ble_eq_true rfl) dL_isForetold_1 ?_
  refine R_lstore_n X (lv' := [(2, .long (zJ r1)), (0, .ref (ad 0)), (1, .int (zI v1))]) dL_isForetold_4 rfl (by decide) rfl ?_
  refine R_iload_n X 2 dL_isForetold_5 rfl rfl ?_
  refine R_bipush X dL_isForetold_6 (by decide +kernel) ?_
  obtain ⟨r4, M5, hc6, hf⟩ := zbnd_some hf
  refine R_callSi X (av := [.int (zI v1), .int (zI 16)]) (rest := []) (c_L_low l D cas ad hi hc6) zy_L_low wm_L_45 rfl rfl ⟨Nat.le_of_ble_eq_true rfl, Nat.le_of_ble_eq_true rfl⟩ ⟨Nat.le_refl _, Nat.le_refl _⟩ (Nat.le_of_ble_eq_true rfl) dL_isForetold_8 ?_
  refine R_istore X (lv' := [(4, .int (zI r4)), (2, .long (zJ r1)), (0, .ref (ad 0)), (1, .int (zI v1))]) dL_isForetold_11 (by decide) rfl ?_
  refine R_aload_n X 2 dL_isForetold_13 rfl rfl ?_
  refine R_iload X 0 dL_isForetold_14 rfl ?_
  obtain ⟨r7, M8, hc9, hf⟩ := zbnd_some hf
  refine R_callVi X (av := [.int (zI r4)]) (rest := []) (c_X9_movesIn l D cas ad hi hc9) zy_X9_movesIn lc_0 rfl rfl wm_L_59 rfl rfl ⟨Nat.le_of_ble_eq_true rfl, Nat.le_of_ble_eq_true rfl⟩ ⟨Nat.le_refl _, Nat.le_refl _⟩ (Nat.le_of_ble_eq_true rfl) dL_isForetold_16 ?_
  refine R_istore X (lv' := [(5, .int (zI r7)), (4, .int (zI r4)), (2, .long (zJ r1)), (0, .ref (ad 0)), (1, .int (zI v1))]) dL_isForetold_19 (by decide) rfl ?_
  refine R_aload_n X 3 dL_isForetold_21 rfl rfl ?_
  obtain ⟨r10, M11, hc12, hf⟩ := zbnd_some hf
  refine R_callSl X (av := [.ref (ad 0)]) (rest := []) (c_L_all l D cas ad hi hc12) zy_L_all wm_L_48 rfl rfl ⟨Nat.le_of_ble_eq_true rfl, Nat.le_of_ble_eq_true rfl⟩ ⟨Nat.le_refl _, Nat.le_refl _⟩ (Nat.le_of_ble_eq_true rfl) dL_isForetold_22 ?_
  refine R_lload_n X 2 dL_isForetold_25 rfl rfl ?_
  refine R_lcmp X dL_isForetold_26 ?_
  obtain ⟨hq13, hf⟩ := zgrd hf
  refine R_if_eq X 32 hq13 dL_isForetold_27 (by decide) (fun c22 => ?_) (fun c22 => ?_)
  · have hf := zthen hf c22
    refine R_aload_n X 3 dL_isForetold_32 rfl rfl ?_
    refine R_iload X 1 dL_isForetold_33 rfl ?_
    refine R_iconst X dL_isForetold_35 ?_
    obtain ⟨r14, M15, hc16, hf⟩ := zbnd_some hf
    refine R_callVi X (av := [.int (zI r4), .int (zI 2)]) (rest := []) (c_X9_shard l D cas ad hi hc16) zy_X9_shard lc_0 rfl rfl wm_L_26 rfl rfl ⟨Nat.le_of_ble_eq_true rfl, Nat.le_of_ble_eq_true rfl⟩ ⟨Nat.le_refl _, Nat.le_refl _⟩ (Nat.le_of_ble_eq_true rfl) dL_isForetold_36 ?_
    refine R_istore X (lv' := [(6, .int (zI r14)), (5, .int (zI r7)), (4, .int (zI r4)), (2, .long (zJ r1)), (0, .ref (ad 0)), (1, .int (zI v1))]) dL_isForetold_39 (by decide) rfl ?_
    refine R_aload_n X 4 dL_isForetold_41 rfl rfl ?_
    refine R_iload X 2 dL_isForetold_42 rfl ?_
    refine R_iconst X dL_isForetold_44 ?_
    obtain ⟨r17, M18, hc19, hf⟩ := zbnd_some hf
    refine R_callVi X (av := [.int (zI r4), .int (zI 0)]) (rest := []) (c_X9_shard l D cas ad hi hc19) zy_X9_shard lc_0 rfl rfl wm_L_26 rfl rfl ⟨Nat.le_of_ble_eq_true rfl, Nat.le_of_ble_eq_true rfl⟩ ⟨Nat.le_refl _, Nat.le_refl _⟩ (Nat.le_of_ble_eq_true rfl) dL_isForetold_45 ?_
    refine R_istore X (lv' := [(7, .int (zI r17)), (6, .int (zI r14)), (5, .int (zI r7)), (4, .int (zI r4)), (2, .long (zJ r1)), (0, .ref (ad 0)), (1, .int (zI v1))]) dL_isForetold_48 (by decide) rfl ?_
    refine R_iload X 2 dL_isForetold_50 rfl ?_
    obtain ⟨hq20, hf⟩ := zgrd hf
    refine R_if_ge X 60 hq20 dL_isForetold_52 (by decide) (fun c21 => ?_) (fun c21 => ?_)
    · have hf := zthen hf c21
      refine R_iload X 2 dL_isForetold_60 rfl ?_
      exact R_sub [5, 4, 3, 2, 1, 0] rfl (hB62 r1 r4 r7 r14 r17 r7 M18 hf)
    · have hf := zelse hf c21
      refine R_bipush X dL_isForetold_55 (by decide +kernel) ?_
      refine R_goto X 62 dL_isForetold_57 (by decide) ?_
      exact R_sub [5, 4, 3, 2, 1, 0] rfl (hB62 r1 r4 r7 r14 r17 20 M18 hf)
  · have hf := zelse hf c22
    refine R_iconst X dL_isForetold_30 ?_
    exact R_zret X (Or.inl rfl) hr hk0 dL_isForetold_31 hf
theorem dL_isReached_0 : decode cL_isReached 0 = .ok (.aload_n 0, 1) := by decide +kernel
theorem dL_isReached_1 : decode cL_isReached 1 = .ok (.bipush 6, 2) := by decide +kernel
theorem dL_isReached_3 : decode cL_isReached 3 = .ok (.invokevirtual 12, 3) := by decide +kernel
theorem dL_isReached_6 : decode cL_isReached 6 = .ok (.istore_n 2, 1) := by decide +kernel
theorem dL_isReached_7 : decode cL_isReached 7 = .ok (.iload_n 2, 1) := by decide +kernel
theorem dL_isReached_8 : decode cL_isReached 8 = .ok (.ifCond .ne 31, 3) := by decide +kernel
theorem dL_isReached_11 : decode cL_isReached 11 = .ok (.aload_n 0, 1) := by decide +kernel
theorem dL_isReached_12 : decode cL_isReached 12 = .ok (.iconst 0, 1) := by decide +kernel
theorem dL_isReached_13 : decode cL_isReached 13 = .ok (.iconst 0, 1) := by decide +kernel
theorem dL_isReached_14 : decode cL_isReached 14 = .ok (.iconst 0, 1) := by decide +kernel
theorem dL_isReached_15 : decode cL_isReached 15 = .ok (.invokevirtual 39, 3) := by decide +kernel
theorem dL_isReached_18 : decode cL_isReached 18 = .ok (.iconst (-1), 1) := by decide +kernel
theorem dL_isReached_19 : decode cL_isReached 19 = .ok (.if_icmp .ne 18, 3) := by decide +kernel
theorem dL_isReached_22 : decode cL_isReached 22 = .ok (.aload_n 0, 1) := by decide +kernel
theorem dL_isReached_23 : decode cL_isReached 23 = .ok (.iconst 0, 1) := by decide +kernel
theorem dL_isReached_24 : decode cL_isReached 24 = .ok (.iconst 0, 1) := by decide +kernel
theorem dL_isReached_25 : decode cL_isReached 25 = .ok (.iconst 0, 1) := by decide +kernel
theorem dL_isReached_26 : decode cL_isReached 26 = .ok (.invokevirtual 42, 3) := by decide +kernel
theorem dL_isReached_29 : decode cL_isReached 29 = .ok (.iconst (-1), 1) := by decide +kernel
theorem dL_isReached_30 : decode cL_isReached 30 = .ok (.if_icmp .ne 7, 3) := by decide +kernel
theorem dL_isReached_33 : decode cL_isReached 33 = .ok (.iconst 1, 1) := by decide +kernel
theorem dL_isReached_34 : decode cL_isReached 34 = .ok (.goto 4, 3) := by decide +kernel
theorem dL_isReached_37 : decode cL_isReached 37 = .ok (.iconst 0, 1) := by decide +kernel
theorem dL_isReached_38 : decode cL_isReached 38 = .ok (.ireturn, 1) := by decide +kernel
theorem dL_isReached_39 : decode cL_isReached 39 = .ok (.iload_n 1, 1) := by decide +kernel
theorem dL_isReached_40 : decode cL_isReached 40 = .ok (.iload_n 2, 1) := by decide +kernel
theorem dL_isReached_41 : decode cL_isReached 41 = .ok (.invokestatic 45, 3) := by decide +kernel
theorem dL_isReached_44 : decode cL_isReached 44 = .ok (.istore_n 3, 1) := by decide +kernel
theorem dL_isReached_45 : decode cL_isReached 45 = .ok (.iload_n 1, 1) := by decide +kernel
theorem dL_isReached_46 : decode cL_isReached 46 = .ok (.iconst 3, 1) := by decide +kernel
theorem dL_isReached_47 : decode cL_isReached 47 = .ok (.ishr, 1) := by decide +kernel
theorem dL_isReached_48 : decode cL_isReached 48 = .ok (.sipush 256, 3) := by decide +kernel
theorem dL_isReached_51 : decode cL_isReached 51 = .ok (.invokestatic 45, 3) := by decide +kernel
theorem dL_isReached_54 : decode cL_isReached 54 = .ok (.istore 4, 2) := by decide +kernel
theorem dL_isReached_56 : decode cL_isReached 56 = .ok (.iload 4, 2) := by decide +kernel
theorem dL_isReached_58 : decode cL_isReached 58 = .ok (.bipush 16, 2) := by decide +kernel
theorem dL_isReached_60 : decode cL_isReached 60 = .ok (.idiv, 1) := by decide +kernel
theorem dL_isReached_61 : decode cL_isReached 61 = .ok (.istore 5, 2) := by decide +kernel
theorem dL_isReached_63 : decode cL_isReached 63 = .ok (.aload_n 0, 1) := by decide +kernel
theorem dL_isReached_64 : decode cL_isReached 64 = .ok (.iload_n 3, 1) := by decide +kernel
theorem dL_isReached_65 : decode cL_isReached 65 = .ok (.iload 4, 2) := by decide +kernel
theorem dL_isReached_67 : decode cL_isReached 67 = .ok (.iconst 0, 1) := by decide +kernel
theorem dL_isReached_68 : decode cL_isReached 68 = .ok (.invokevirtual 39, 3) := by decide +kernel
theorem dL_isReached_71 : decode cL_isReached 71 = .ok (.istore 6, 2) := by decide +kernel
theorem dL_isReached_73 : decode cL_isReached 73 = .ok (.aload_n 0, 1) := by decide +kernel
theorem dL_isReached_74 : decode cL_isReached 74 = .ok (.iload_n 3, 1) := by decide +kernel
theorem dL_isReached_75 : decode cL_isReached 75 = .ok (.iload 4, 2) := by decide +kernel
theorem dL_isReached_77 : decode cL_isReached 77 = .ok (.iconst 1, 1) := by decide +kernel
theorem dL_isReached_78 : decode cL_isReached 78 = .ok (.invokevirtual 39, 3) := by decide +kernel
theorem dL_isReached_81 : decode cL_isReached 81 = .ok (.aload_n 0, 1) := by decide +kernel
theorem dL_isReached_82 : decode cL_isReached 82 = .ok (.iload_n 3, 1) := by decide +kernel
theorem dL_isReached_83 : decode cL_isReached 83 = .ok (.iload 4, 2) := by decide +kernel
theorem dL_isReached_85 : decode cL_isReached 85 = .ok (.iconst 2, 1) := by decide +kernel
theorem dL_isReached_86 : decode cL_isReached 86 = .ok (.invokevirtual 39, 3) := by decide +kernel
theorem dL_isReached_89 : decode cL_isReached 89 = .ok (.iadd, 1) := by decide +kernel
theorem dL_isReached_90 : decode cL_isReached 90 = .ok (.aload_n 0, 1) := by decide +kernel
theorem dL_isReached_91 : decode cL_isReached 91 = .ok (.iload_n 3, 1) := by decide +kernel
theorem dL_isReached_92 : decode cL_isReached 92 = .ok (.iload 4, 2) := by decide +kernel
theorem dL_isReached_94 : decode cL_isReached 94 = .ok (.iconst 3, 1) := by decide +kernel
theorem dL_isReached_95 : decode cL_isReached 95 = .ok (.invokevirtual 39, 3) := by decide +kernel
theorem dL_isReached_98 : decode cL_isReached 98 = .ok (.iadd, 1) := by decide +kernel
theorem dL_isReached_99 : decode cL_isReached 99 = .ok (.istore 7, 2) := by decide +kernel
theorem dL_isReached_101 : decode cL_isReached 101 = .ok (.aload_n 0, 1) := by decide +kernel
theorem dL_isReached_102 : decode cL_isReached 102 = .ok (.iload_n 3, 1) := by decide +kernel
theorem dL_isReached_103 : decode cL_isReached 103 = .ok (.iload 4, 2) := by decide +kernel
theorem dL_isReached_105 : decode cL_isReached 105 = .ok (.iconst 4, 1) := by decide +kernel
theorem dL_isReached_106 : decode cL_isReached 106 = .ok (.invokevirtual 39, 3) := by decide +kernel
theorem dL_isReached_109 : decode cL_isReached 109 = .ok (.istore 8, 2) := by decide +kernel
theorem dL_isReached_111 : decode cL_isReached 111 = .ok (.iload 7, 2) := by decide +kernel
theorem dL_isReached_113 : decode cL_isReached 113 = .ok (.iload 8, 2) := by decide +kernel
theorem dL_isReached_115 : decode cL_isReached 115 = .ok (.iadd, 1) := by decide +kernel
theorem dL_isReached_116 : decode cL_isReached 116 = .ok (.istore 9, 2) := by decide +kernel
theorem dL_isReached_118 : decode cL_isReached 118 = .ok (.iload 6, 2) := by decide +kernel
theorem dL_isReached_120 : decode cL_isReached 120 = .ok (.iload 7, 2) := by decide +kernel
theorem dL_isReached_122 : decode cL_isReached 122 = .ok (.iload 8, 2) := by decide +kernel
theorem dL_isReached_124 : decode cL_isReached 124 = .ok (.aload_n 0, 1) := by decide +kernel
theorem dL_isReached_125 : decode cL_isReached 125 = .ok (.iconst 3, 1) := by decide +kernel
theorem dL_isReached_126 : decode cL_isReached 126 = .ok (.invokevirtual 12, 3) := by decide +kernel
theorem dL_isReached_129 : decode cL_isReached 129 = .ok (.imul, 1) := by decide +kernel
theorem dL_isReached_130 : decode cL_isReached 130 = .ok (.iadd, 1) := by decide +kernel
theorem dL_isReached_131 : decode cL_isReached 131 = .ok (.if_icmp .ne 88, 3) := by decide +kernel
theorem dL_isReached_134 : decode cL_isReached 134 = .ok (.aload_n 0, 1) := by decide +kernel
theorem dL_isReached_135 : decode cL_isReached 135 = .ok (.iload_n 3, 1) := by decide +kernel
theorem dL_isReached_136 : decode cL_isReached 136 = .ok (.iload 4, 2) := by decide +kernel
theorem dL_isReached_138 : decode cL_isReached 138 = .ok (.iconst 0, 1) := by decide +kernel
theorem dL_isReached_139 : decode cL_isReached 139 = .ok (.invokevirtual 42, 3) := by decide +kernel
theorem dL_isReached_142 : decode cL_isReached 142 = .ok (.aload_n 0, 1) := by decide +kernel
theorem dL_isReached_143 : decode cL_isReached 143 = .ok (.iload_n 3, 1) := by decide +kernel
theorem dL_isReached_144 : decode cL_isReached 144 = .ok (.iload 5, 2) := by decide +kernel
theorem dL_isReached_146 : decode cL_isReached 146 = .ok (.invokevirtual 31, 3) := by decide +kernel
theorem dL_isReached_149 : decode cL_isReached 149 = .ok (.if_icmp .ne 70, 3) := by decide +kernel
theorem dL_isReached_152 : decode cL_isReached 152 = .ok (.aload_n 0, 1) := by decide +kernel
theorem dL_isReached_153 : decode cL_isReached 153 = .ok (.iload_n 3, 1) := by decide +kernel
theorem dL_isReached_154 : decode cL_isReached 154 = .ok (.iload 4, 2) := by decide +kernel
theorem dL_isReached_156 : decode cL_isReached 156 = .ok (.iload 9, 2) := by decide +kernel
theorem dL_isReached_158 : decode cL_isReached 158 = .ok (.invokevirtual 42, 3) := by decide +kernel
theorem dL_isReached_161 : decode cL_isReached 161 = .ok (.aload_n 0, 1) := by decide +kernel
theorem dL_isReached_162 : decode cL_isReached 162 = .ok (.iload 5, 2) := by decide +kernel
theorem dL_isReached_164 : decode cL_isReached 164 = .ok (.iconst 0, 1) := by decide +kernel
theorem dL_isReached_165 : decode cL_isReached 165 = .ok (.invokevirtual 26, 3) := by decide +kernel
theorem dL_isReached_168 : decode cL_isReached 168 = .ok (.if_icmp .ne 51, 3) := by decide +kernel
theorem dL_isReached_171 : decode cL_isReached 171 = .ok (.aload_n 0, 1) := by decide +kernel
theorem dL_isReached_172 : decode cL_isReached 172 = .ok (.iload_n 3, 1) := by decide +kernel
theorem dL_isReached_173 : decode cL_isReached 173 = .ok (.iload 4, 2) := by decide +kernel
theorem dL_isReached_175 : decode cL_isReached 175 = .ok (.iload 9, 2) := by decide +kernel
theorem dL_isReached_177 : decode cL_isReached 177 = .ok (.iconst 1, 1) := by decide +kernel
theorem dL_isReached_178 : decode cL_isReached 178 = .ok (.iadd, 1) := by decide +kernel
theorem dL_isReached_179 : decode cL_isReached 179 = .ok (.invokevirtual 42, 3) := by decide +kernel
theorem dL_isReached_182 : decode cL_isReached 182 = .ok (.bipush (-5), 2) := by decide +kernel
theorem dL_isReached_184 : decode cL_isReached 184 = .ok (.if_icmp .ne 35, 3) := by decide +kernel
theorem dL_isReached_187 : decode cL_isReached 187 = .ok (.aload_n 0, 1) := by decide +kernel
theorem dL_isReached_188 : decode cL_isReached 188 = .ok (.iload_n 3, 1) := by decide +kernel
theorem dL_isReached_189 : decode cL_isReached 189 = .ok (.iload 4, 2) := by decide +kernel
theorem dL_isReached_191 : decode cL_isReached 191 = .ok (.iconst 2, 1) := by decide +kernel
theorem dL_isReached_192 : decode cL_isReached 192 = .ok (.invokevirtual 39, 3) := by decide +kernel
theorem dL_isReached_195 : decode cL_isReached 195 = .ok (.aload_n 0, 1) := by decide +kernel
theorem dL_isReached_196 : decode cL_isReached 196 = .ok (.iconst 4, 1) := by decide +kernel
theorem dL_isReached_197 : decode cL_isReached 197 = .ok (.invokevirtual 12, 3) := by decide +kernel
theorem dL_isReached_200 : decode cL_isReached 200 = .ok (.if_icmp .gt 19, 3) := by decide +kernel
theorem dL_isReached_203 : decode cL_isReached 203 = .ok (.aload_n 0, 1) := by decide +kernel
theorem dL_isReached_204 : decode cL_isReached 204 = .ok (.iload_n 3, 1) := by decide +kernel
theorem dL_isReached_205 : decode cL_isReached 205 = .ok (.iload 4, 2) := by decide +kernel
theorem dL_isReached_207 : decode cL_isReached 207 = .ok (.iconst 3, 1) := by decide +kernel
theorem dL_isReached_208 : decode cL_isReached 208 = .ok (.invokevirtual 39, 3) := by decide +kernel
theorem dL_isReached_211 : decode cL_isReached 211 = .ok (.aload_n 0, 1) := by decide +kernel
theorem dL_isReached_212 : decode cL_isReached 212 = .ok (.iconst 4, 1) := by decide +kernel
theorem dL_isReached_213 : decode cL_isReached 213 = .ok (.invokevirtual 12, 3) := by decide +kernel
theorem dL_isReached_216 : decode cL_isReached 216 = .ok (.if_icmp .le 5, 3) := by decide +kernel
theorem dL_isReached_219 : decode cL_isReached 219 = .ok (.iconst 0, 1) := by decide +kernel
theorem dL_isReached_220 : decode cL_isReached 220 = .ok (.ireturn, 1) := by decide +kernel
theorem dL_isReached_221 : decode cL_isReached 221 = .ok (.iconst 0, 1) := by decide +kernel
theorem dL_isReached_222 : decode cL_isReached 222 = .ok (.istore 10, 2) := by decide +kernel
theorem dL_isReached_224 : decode cL_isReached 224 = .ok (.iload 10, 2) := by decide +kernel
theorem dL_isReached_226 : decode cL_isReached 226 = .ok (.iload 7, 2) := by decide +kernel
theorem dL_isReached_228 : decode cL_isReached 228 = .ok (.if_icmp .ge 106, 3) := by decide +kernel
theorem dL_isReached_231 : decode cL_isReached 231 = .ok (.aload_n 0, 1) := by decide +kernel
theorem dL_isReached_232 : decode cL_isReached 232 = .ok (.iload_n 3, 1) := by decide +kernel
theorem dL_isReached_233 : decode cL_isReached 233 = .ok (.iload 4, 2) := by decide +kernel
theorem dL_isReached_235 : decode cL_isReached 235 = .ok (.iload 10, 2) := by decide +kernel
theorem dL_isReached_237 : decode cL_isReached 237 = .ok (.invokevirtual 42, 3) := by decide +kernel
theorem dL_isReached_240 : decode cL_isReached 240 = .ok (.istore 11, 2) := by decide +kernel
theorem dL_isReached_242 : decode cL_isReached 242 = .ok (.aload_n 0, 1) := by decide +kernel
theorem dL_isReached_243 : decode cL_isReached 243 = .ok (.iload_n 3, 1) := by decide +kernel
theorem dL_isReached_244 : decode cL_isReached 244 = .ok (.iload 4, 2) := by decide +kernel
theorem dL_isReached_246 : decode cL_isReached 246 = .ok (.iload 10, 2) := by decide +kernel
theorem dL_isReached_248 : decode cL_isReached 248 = .ok (.iconst 1, 1) := by decide +kernel
theorem dL_isReached_249 : decode cL_isReached 249 = .ok (.iadd, 1) := by decide +kernel
theorem dL_isReached_250 : decode cL_isReached 250 = .ok (.invokevirtual 42, 3) := by decide +kernel
theorem dL_isReached_253 : decode cL_isReached 253 = .ok (.istore 12, 2) := by decide +kernel
theorem dL_isReached_255 : decode cL_isReached 255 = .ok (.aload_n 0, 1) := by decide +kernel
theorem dL_isReached_256 : decode cL_isReached 256 = .ok (.iload 11, 2) := by decide +kernel
theorem dL_isReached_258 : decode cL_isReached 258 = .ok (.iload 5, 2) := by decide +kernel
theorem dL_isReached_260 : decode cL_isReached 260 = .ok (.iconst 0, 1) := by decide +kernel
theorem dL_isReached_261 : decode cL_isReached 261 = .ok (.invokevirtual 22, 3) := by decide +kernel
theorem dL_isReached_264 : decode cL_isReached 264 = .ok (.istore 13, 2) := by decide +kernel
theorem dL_isReached_266 : decode cL_isReached 266 = .ok (.iload 11, 2) := by decide +kernel
theorem dL_isReached_268 : decode cL_isReached 268 = .ok (.aload_n 0, 1) := by decide +kernel
theorem dL_isReached_269 : decode cL_isReached 269 = .ok (.iload 5, 2) := by decide +kernel
theorem dL_isReached_271 : decode cL_isReached 271 = .ok (.iconst 0, 1) := by decide +kernel
theorem dL_isReached_272 : decode cL_isReached 272 = .ok (.invokevirtual 26, 3) := by decide +kernel
theorem dL_isReached_275 : decode cL_isReached 275 = .ok (.if_icmp .eq 51, 3) := by decide +kernel
theorem dL_isReached_278 : decode cL_isReached 278 = .ok (.iload 11, 2) := by decide +kernel
theorem dL_isReached_280 : decode cL_isReached 280 = .ok (.iload 12, 2) := by decide +kernel
theorem dL_isReached_282 : decode cL_isReached 282 = .ok (.if_icmp .eq 44, 3) := by decide +kernel
theorem dL_isReached_285 : decode cL_isReached 285 = .ok (.iload 13, 2) := by decide +kernel
theorem dL_isReached_287 : decode cL_isReached 287 = .ok (.ifCond .lt 10, 3) := by decide +kernel
theorem dL_isReached_290 : decode cL_isReached 290 = .ok (.iload 12, 2) := by decide +kernel
theorem dL_isReached_292 : decode cL_isReached 292 = .ok (.iload 13, 2) := by decide +kernel
theorem dL_isReached_294 : decode cL_isReached 294 = .ok (.if_icmp .ne 32, 3) := by decide +kernel
theorem dL_isReached_297 : decode cL_isReached 297 = .ok (.iload 13, 2) := by decide +kernel
theorem dL_isReached_299 : decode cL_isReached 299 = .ok (.ifCond .ge 29, 3) := by decide +kernel
theorem dL_isReached_302 : decode cL_isReached 302 = .ok (.iload 12, 2) := by decide +kernel
theorem dL_isReached_304 : decode cL_isReached 304 = .ok (.aload_n 0, 1) := by decide +kernel
theorem dL_isReached_305 : decode cL_isReached 305 = .ok (.iload 11, 2) := by decide +kernel
theorem dL_isReached_307 : decode cL_isReached 307 = .ok (.iload 5, 2) := by decide +kernel
theorem dL_isReached_309 : decode cL_isReached 309 = .ok (.iconst 2, 1) := by decide +kernel
theorem dL_isReached_310 : decode cL_isReached 310 = .ok (.invokevirtual 22, 3) := by decide +kernel
theorem dL_isReached_313 : decode cL_isReached 313 = .ok (.if_icmp .eq 15, 3) := by decide +kernel
theorem dL_isReached_316 : decode cL_isReached 316 = .ok (.aload_n 0, 1) := by decide +kernel
theorem dL_isReached_317 : decode cL_isReached 317 = .ok (.iload 12, 2) := by decide +kernel
theorem dL_isReached_319 : decode cL_isReached 319 = .ok (.iconst 2, 1) := by decide +kernel
theorem dL_isReached_320 : decode cL_isReached 320 = .ok (.invokevirtual 18, 3) := by decide +kernel
theorem dL_isReached_323 : decode cL_isReached 323 = .ok (.ifCond .ne 5, 3) := by decide +kernel
theorem dL_isReached_326 : decode cL_isReached 326 = .ok (.iconst 0, 1) := by decide +kernel
theorem dL_isReached_327 : decode cL_isReached 327 = .ok (.ireturn, 1) := by decide +kernel
theorem dL_isReached_328 : decode cL_isReached 328 = .ok (.iinc 10 1, 3) := by decide +kernel
theorem dL_isReached_331 : decode cL_isReached 331 = .ok (.goto (-107), 3) := by decide +kernel
theorem dL_isReached_334 : decode cL_isReached 334 = .ok (.aload_n 0, 1) := by decide +kernel
theorem dL_isReached_335 : decode cL_isReached 335 = .ok (.invokestatic 48, 3) := by decide +kernel
theorem dL_isReached_338 : decode cL_isReached 338 = .ok (.lstore 10, 2) := by decide +kernel
theorem dL_isReached_340 : decode cL_isReached 340 = .ok (.aload_n 0, 1) := by decide +kernel
theorem dL_isReached_341 : decode cL_isReached 341 = .ok (.iload 5, 2) := by decide +kernel
theorem dL_isReached_343 : decode cL_isReached 343 = .ok (.iconst 1, 1) := by decide +kernel
theorem dL_isReached_344 : decode cL_isReached 344 = .ok (.invokevirtual 26, 3) := by decide +kernel
theorem dL_isReached_347 : decode cL_isReached 347 = .ok (.istore 12, 2) := by decide +kernel
theorem dL_isReached_349 : decode cL_isReached 349 = .ok (.aload_n 0, 1) := by decide +kernel
theorem dL_isReached_350 : decode cL_isReached 350 = .ok (.bipush 11, 2) := by decide +kernel
theorem dL_isReached_352 : decode cL_isReached 352 = .ok (.invokevirtual 12, 3) := by decide +kernel
theorem dL_isReached_355 : decode cL_isReached 355 = .ok (.istore 13, 2) := by decide +kernel
theorem dL_isReached_357 : decode cL_isReached 357 = .ok (.aload_n 0, 1) := by decide +kernel
theorem dL_isReached_358 : decode cL_isReached 358 = .ok (.bipush 12, 2) := by decide +kernel
theorem dL_isReached_360 : decode cL_isReached 360 = .ok (.invokevirtual 12, 3) := by decide +kernel
theorem dL_isReached_363 : decode cL_isReached 363 = .ok (.istore 14, 2) := by decide +kernel
theorem dL_isReached_365 : decode cL_isReached 365 = .ok (.aload_n 0, 1) := by decide +kernel
theorem dL_isReached_366 : decode cL_isReached 366 = .ok (.iload_n 3, 1) := by decide +kernel
theorem dL_isReached_367 : decode cL_isReached 367 = .ok (.iload 4, 2) := by decide +kernel
theorem dL_isReached_369 : decode cL_isReached 369 = .ok (.invokevirtual 52, 3) := by decide +kernel
theorem dL_isReached_372 : decode cL_isReached 372 = .ok (.iload 6, 2) := by decide +kernel
theorem dL_isReached_374 : decode cL_isReached 374 = .ok (.if_icmp .ne 74, 3) := by decide +kernel
theorem dL_isReached_377 : decode cL_isReached 377 = .ok (.aload_n 0, 1) := by decide +kernel
theorem dL_isReached_378 : decode cL_isReached 378 = .ok (.iload_n 3, 1) := by decide +kernel
theorem dL_isReached_379 : decode cL_isReached 379 = .ok (.iload 5, 2) := by decide +kernel
theorem dL_isReached_381 : decode cL_isReached 381 = .ok (.invokevirtual 31, 3) := by decide +kernel
theorem dL_isReached_384 : decode cL_isReached 384 = .ok (.aload_n 0, 1) := by decide +kernel
theorem dL_isReached_385 : decode cL_isReached 385 = .ok (.iload 5, 2) := by decide +kernel
theorem dL_isReached_387 : decode cL_isReached 387 = .ok (.iconst 0, 1) := by decide +kernel
theorem dL_isReached_388 : decode cL_isReached 388 = .ok (.invokevirtual 26, 3) := by decide +kernel
theorem dL_isReached_391 : decode cL_isReached 391 = .ok (.if_icmp .ne 57, 3) := by decide +kernel
theorem dL_isReached_394 : decode cL_isReached 394 = .ok (.aload_n 0, 1) := by decide +kernel
theorem dL_isReached_395 : decode cL_isReached 395 = .ok (.iload 5, 2) := by decide +kernel
theorem dL_isReached_397 : decode cL_isReached 397 = .ok (.iconst 1, 1) := by decide +kernel
theorem dL_isReached_398 : decode cL_isReached 398 = .ok (.invokevirtual 26, 3) := by decide +kernel
theorem dL_isReached_401 : decode cL_isReached 401 = .ok (.iload 12, 2) := by decide +kernel
theorem dL_isReached_403 : decode cL_isReached 403 = .ok (.if_icmp .lt 45, 3) := by decide +kernel
theorem dL_isReached_406 : decode cL_isReached 406 = .ok (.aload_n 0, 1) := by decide +kernel
theorem dL_isReached_407 : decode cL_isReached 407 = .ok (.bipush 11, 2) := by decide +kernel
theorem dL_isReached_409 : decode cL_isReached 409 = .ok (.invokevirtual 12, 3) := by decide +kernel
theorem dL_isReached_412 : decode cL_isReached 412 = .ok (.iload 13, 2) := by decide +kernel
theorem dL_isReached_414 : decode cL_isReached 414 = .ok (.iconst 1, 1) := by decide +kernel
theorem dL_isReached_415 : decode cL_isReached 415 = .ok (.iadd, 1) := by decide +kernel
theorem dL_isReached_416 : decode cL_isReached 416 = .ok (.if_icmp .ne 32, 3) := by decide +kernel
theorem dL_isReached_419 : decode cL_isReached 419 = .ok (.aload_n 0, 1) := by decide +kernel
theorem dL_isReached_420 : decode cL_isReached 420 = .ok (.bipush 12, 2) := by decide +kernel
theorem dL_isReached_422 : decode cL_isReached 422 = .ok (.invokevirtual 12, 3) := by decide +kernel
theorem dL_isReached_425 : decode cL_isReached 425 = .ok (.iload 14, 2) := by decide +kernel
theorem dL_isReached_427 : decode cL_isReached 427 = .ok (.iload 8, 2) := by decide +kernel
theorem dL_isReached_429 : decode cL_isReached 429 = .ok (.iadd, 1) := by decide +kernel
theorem dL_isReached_430 : decode cL_isReached 430 = .ok (.if_icmp .ne 18, 3) := by decide +kernel
theorem dL_isReached_433 : decode cL_isReached 433 = .ok (.aload_n 0, 1) := by decide +kernel
theorem dL_isReached_434 : decode cL_isReached 434 = .ok (.iload_n 3, 1) := by decide +kernel
theorem dL_isReached_435 : decode cL_isReached 435 = .ok (.iload 4, 2) := by decide +kernel
theorem dL_isReached_437 : decode cL_isReached 437 = .ok (.iconst 0, 1) := by decide +kernel
theorem dL_isReached_438 : decode cL_isReached 438 = .ok (.invokevirtual 39, 3) := by decide +kernel
theorem dL_isReached_441 : decode cL_isReached 441 = .ok (.ifCond .ne 7, 3) := by decide +kernel
theorem dL_isReached_444 : decode cL_isReached 444 = .ok (.iconst 1, 1) := by decide +kernel
theorem dL_isReached_445 : decode cL_isReached 445 = .ok (.goto 4, 3) := by decide +kernel
theorem dL_isReached_448 : decode cL_isReached 448 = .ok (.iconst 0, 1) := by decide +kernel
theorem dL_isReached_449 : decode cL_isReached 449 = .ok (.istore 15, 2) := by decide +kernel
theorem dL_isReached_451 : decode cL_isReached 451 = .ok (.iload 15, 2) := by decide +kernel
theorem dL_isReached_453 : decode cL_isReached 453 = .ok (.ifCond .eq 24, 3) := by decide +kernel
theorem dL_isReached_456 : decode cL_isReached 456 = .ok (.aload_n 0, 1) := by decide +kernel
theorem dL_isReached_457 : decode cL_isReached 457 = .ok (.invokevirtual 55, 3) := by decide +kernel
theorem dL_isReached_460 : decode cL_isReached 460 = .ok (.ifCond .lt 17, 3) := by decide +kernel
theorem dL_isReached_463 : decode cL_isReached 463 = .ok (.aload_n 0, 1) := by decide +kernel
theorem dL_isReached_464 : decode cL_isReached 464 = .ok (.invokestatic 48, 3) := by decide +kernel
theorem dL_isReached_467 : decode cL_isReached 467 = .ok (.lload 10, 2) := by decide +kernel
theorem dL_isReached_469 : decode cL_isReached 469 = .ok (.lcmp, 1) := by decide +kernel
theorem dL_isReached_470 : decode cL_isReached 470 = .ok (.ifCond .ne 7, 3) := by decide +kernel
theorem dL_isReached_473 : decode cL_isReached 473 = .ok (.iconst 1, 1) := by decide +kernel
theorem dL_isReached_474 : decode cL_isReached 474 = .ok (.goto 4, 3) := by decide +kernel
theorem dL_isReached_477 : decode cL_isReached 477 = .ok (.iconst 0, 1) := by decide +kernel
theorem dL_isReached_478 : decode cL_isReached 478 = .ok (.ireturn, 1) := by decide +kernel
set_option maxRecDepth 100000 in
set_option maxHeartbeats 4000000 in
theorem c_L_isReached (l : Launch) (D : va_G) (cas : Nat → ClassId) (ad : Nat → Nat) (hi : zInj ad) {v1 : Int}  {r : Int} {M M' : Mem} (hf : f_L_isReached v1 M = some (r, M')) : zMi l D cas ad yL_isReached cL_isReached 16 (some .boolean) 7 166 [.ref (ad 0), .int (zI v1)] M r M' := by
  refine zbody (by decide) (Nat.le_of_ble_eq_true rfl) hi ?_
  intro p e s m args below meth c X hr hk0
  have X : zX p s m args c cL_isReached "ShardTrailsLaw" 16 D cas ad (zA ad) := X
  have hB38 : ∀ (t1 : Int) (M : Mem), f_L_isReached_b38 t1 M = some (r, M') → WW p l e (zrm 7 166) s m args below meth c D cas ad (zA ad) 16 0 0 (MQ below (zQi D cas ad r M') args s 0 0 (zA ad)) 38 [] [.int (zI t1)] M := by
    intro t1 M hf
    unfold f_L_isReached_b38 at hf
    obtain ⟨hq154, hf⟩ := zgrd hf
    exact R_zret X hq154 hr hk0 dL_isReached_38 hf
  have hB37 : ∀ (M : Mem), f_L_isReached_b37 M = some (r, M') → WW p l e (zrm 7 166) s m args below meth c D cas ad (zA ad) 16 0 0 (MQ below (zQi D cas ad r M') args s 0 0 (zA ad)) 37 [] [] M := by
    intro M hf
    unfold f_L_isReached_b37 at hf
    refine R_iconst X dL_isReached_37 ?_
    exact R_sub [] rfl (hB38 0 M hf)
  have hB219 : ∀ (M : Mem), f_L_isReached_b219 M = some (r, M') → WW p l e (zrm 7 166) s m args below meth c D cas ad (zA ad) 16 0 0 (MQ below (zQi D cas ad r M') args s 0 0 (zA ad)) 219 [] [] M := by
    intro M hf
    unfold f_L_isReached_b219 at hf
    refine R_iconst X dL_isReached_219 ?_
    exact R_zret X (Or.inl rfl) hr hk0 dL_isReached_220 hf
  have hB326 : ∀ (M : Mem), f_L_isReached_b326 M = some (r, M') → WW p l e (zrm 7 166) s m args below meth c D cas ad (zA ad) 16 0 0 (MQ below (zQi D cas ad r M') args s 0 0 (zA ad)) 326 [] [] M := by
    intro M hf
    unfold f_L_isReached_b326 at hf
    refine R_iconst X dL_isReached_326 ?_
    exact R_zret X (Or.inl rfl) hr hk0 dL_isReached_327 hf
  have hB328 : ∀ (g224 : Int → Int → Int → Int → Int → Int → Int → Mem → Option (Int × Mem)) (hg224 : ∀ (v3 v4 v5 v6 v7 v8 v10 : Int) (M : Mem), g224 v3 v4 v5 v6 v7 v8 v10 M = some (r, M') → WW p l e (zrm 7 166) s m args below meth c D cas ad (zA ad) 16 0 0 (MQ below (zQi D cas ad r M') args s 0 0 (zA ad)) 224 [(0, .ref (ad 0)), (3, .int (zI v3)), (4, .int (zI v4)), (5, .int (zI v5)), (6, .int (zI v6)), (7, .int (zI v7)), (8, .int (zI v8)), (10, .int (zI v10))] [] M) (v3 v4 v5 v6 v7 v8 v10 : Int) (M : Mem), f_L_isReached_b328 g224 v3 v4 v5 v6 v7 v8 v10 M = some (r, M') → WW p l e (zrm 7 166) s m args below meth c D cas ad (zA ad) 16 0 0 (MQ below (zQi D cas ad r M') args s 0 0 (zA ad)) 328 [(0, .ref (ad 0)), (3, .int (zI v3)), (4, .int (zI v4)), (5, .int (zI v5)), (6, .int (zI v6)), (7, .int (zI v7)), (8, .int (zI v8)), (10, .int (zI v10))] [] M := by
    intro g224 hg224 v3 v4 v5 v6 v7 v8 v10 M hf
    unfold f_L_isReached_b328 at hf
    refine R_iinc X (lv' := [(10, .int (zI (v10 + 1))), (0, .ref (ad 0)), (3, .int (zI v3)), (4, .int (zI v4)), (5, .int (zI v5)), (6, .int (zI v6)), (7, .int (zI v7)), (8, .int (zI v8))]) 7 dL_isReached_328 rfl (by decide) rfl ?_
    refine R_goto X 224 dL_isReached_331 (by decide) ?_
    exact R_sub [1, 2, 3, 4, 5, 6, 7, 0] rfl (hg224 v3 v4 v5 v6 v7 v8 (v10 + 1) M hf)
  have hB297 : ∀ (g224 : Int → Int → Int → Int → Int → Int → Int → Mem → Option (Int × Mem)) (hg224 : ∀ (v3 v4 v5 v6 v7 v8 v10 : Int) (M : Mem), g224 v3 v4 v5 v6 v7 v8 v10 M = some (r, M') → WW p l e (zrm 7 166) s m args below meth c D cas ad (zA ad) 16 0 0 (MQ below (zQi D cas ad r M') args s 0 0 (zA ad)) 224 [(0, .ref (ad 0)), (3, .int (zI v3)), (4, .int (zI v4)), (5, .int (zI v5)), (6, .int (zI v6)), (7, .int (zI v7)), (8, .int (zI v8)), (10, .int (zI v10))] [] M) (v3 v4 v5 v6 v7 v8 v10 v11 v12 v13 : Int) (M : Mem), f_L_isReached_b297 g224 v3 v4 v5 v6 v7 v8 v10 v11 v12 v13 M = some (r, M') → WW p l e (zrm 7 166) s m args below meth c D cas ad (zA ad) 16 0 0 (MQ below (zQi D cas ad r M') args s 0 0 (zA ad)) 297 [(0, .ref (ad 0)), (3, .int (zI v3)), (4, .int (zI v4)), (5, .int (zI v5)), (6, .int (zI v6)), (7, .int (zI v7)), (8, .int (zI v8)), (10, .int (zI v10)), (11, .int (zI v11)), (12, .int (zI v12)), (13, .int (zI v13))] [] M := by
    intro g224 hg224 v3 v4 v5 v6 v7 v8 v10 v11 v12 v13 M hf
    unfold f_L_isReached_b297 at hf
    refine R_iload X 10 dL_isReached_297 rfl ?_
    obtain ⟨hq167, hf⟩ := zgrd hf
    refine R_if_ge X 328 hq167 dL_isReached_299 (by decide) (fun c178 => ?_) (fun c178 => ?_)
    · have hf := zthen hf c178
      exact R_sub [0, 1, 2, 3, 4, 5, 6, 7] rfl (hB328 g224 hg224 v3 v4 v5 v6 v7 v8 v10 M hf)
    · have hf := zelse hf c178
      refine R_iload X 9 dL_isReached_302 rfl ?_
      refine R_aload_n X 0 dL_isReached_304 rfl rfl ?_
      refine R_iload X 8 dL_isReached_305 rfl ?_
      refine R_iload X 3 dL_isReached_307 rfl ?_
      refine R_iconst X dL_isReached_309 ?_
      obtain ⟨r168, M169, hc170, hf⟩ := zbnd_some hf
      refine R_callVi X (av := [.int (zI v11), .int (zI v5), .int (zI 2)]) (rest := [.int (zI v12)]) (c_X9_track l D cas ad hi hc170) zy_X9_track lc_0 rfl rfl wm_L_22 rfl rfl ⟨Nat.le_of_ble_eq_true rfl, Nat.le_of_ble_eq_true rfl⟩ ⟨Nat.le_refl _, Nat.le_refl _⟩ (Nat.le_of_ble_eq_true rfl) dL_isReached_310 ?_
      obtain ⟨hq171, hf⟩ := zgrd hf
      refine R_icmp_eqW X 328 hq171 dL_isReached_313 (by decide) (fun c177 => ?_) (fun c177 => ?_)
      · have hf := zthen hf c177
        exact R_sub [0, 1, 2, 3, 4, 5, 6, 7] rfl (hB328 g224 hg224 v3 v4 v5 v6 v7 v8 v10 M169 hf)
      · have hf := zelse hf c177
        refine R_aload_n X 0 dL_isReached_316 rfl rfl ?_
        refine R_iload X 9 dL_isReached_317 rfl ?_
        refine R_iconst X dL_isReached_319 ?_
        obtain ⟨r172, M173, hc174, hf⟩ := zbnd_some hf
        refine R_callVi X (av := [.int (zI v12), .int (zI 2)]) (rest := []) (c_X9_pasture l D cas ad hi hc174) zy_X9_pasture lc_0 rfl rfl wm_L_18 rfl rfl ⟨Nat.le_of_ble_eq_true rfl, Nat.le_of_ble_eq_true rfl⟩ ⟨Nat.le_refl _, Nat.le_refl _⟩ (Nat.le_of_ble_eq_true rfl) dL_isReached_320 ?_
        obtain ⟨hq175, hf⟩ := zgrd hf
        refine R_if_ne X 328 hq175 dL_isReached_323 (by decide) (fun c176 => ?_) (fun c176 => ?_)
        · have hf := zelse hf c176
          exact R_sub [0, 1, 2, 3, 4, 5, 6, 7] rfl (hB328 g224 hg224 v3 v4 v5 v6 v7 v8 v10 M173 hf)
        · have hf := zthen hf c176
          exact R_sub [] rfl (hB326 M173 hf)
  have hB478 : ∀ (t1 : Int) (M : Mem), f_L_isReached_b478 t1 M = some (r, M') → WW p l e (zrm 7 166) s m args below meth c D cas ad (zA ad) 16 0 0 (MQ below (zQi D cas ad r M') args s 0 0 (zA ad)) 478 [] [.int (zI t1)] M := by
    intro t1 M hf
    unfold f_L_isReached_b478 at hf
    obtain ⟨hq179, hf⟩ := zgrd hf
    exact R_zret X hq179 hr hk0 dL_isReached_478 hf
  have hB477 : ∀ (M : Mem), f_L_isReached_b477 M = some (r, M') → WW p l e (zrm 7 166) s m args below meth c D cas ad (zA ad) 16 0 0 (MQ below (zQi D cas ad r M') args s 0 0 (zA ad)) 477 [] [] M := by
    intro M hf
    unfold f_L_isReached_b477 at hf
    refine R_iconst X dL_isReached_477 ?_
    exact R_sub [] rfl (hB478 0 M hf)
  have hB449 : ∀ (v10 t1 : Int) (M : Mem), f_L_isReached_b449 v10 t1 M = some (r, M') → WW p l e (zrm 7 166) s m args below meth c D cas ad (zA ad) 16 0 0 (MQ below (zQi D cas ad r M') args s 0 0 (zA ad)) 449 [(0, .ref (ad 0)), (10, .long (zJ v10))] [.int (zI t1)] M := by
    intro v10 t1 M hf
    unfold f_L_isReached_b449 at hf
    refine R_istore X (lv' := [(15, .int (zI t1)), (0, .ref (ad 0)), (10, .long (zJ v10))]) dL_isReached_449 (by decide) rfl ?_
    refine R_iload X 0 dL_isReached_451 rfl ?_
    obtain ⟨hq155, hf⟩ := zgrd hf
    refine R_if_eq X 477 hq155 dL_isReached_453 (by decide) (fun c166 => ?_) (fun c166 => ?_)
    · have hf := zthen hf c166
      exact R_sub [] rfl (hB477 M hf)
    · have hf := zelse hf c166
      refine R_aload_n X 1 dL_isReached_456 rfl rfl ?_
      obtain ⟨r156, M157, hc158, hf⟩ := zbnd_some hf
      refine R_callVi X (av := []) (rest := []) (c_X9_undo l D cas ad hi hc158) zy_X9_undo lc_0 rfl rfl wm_L_55 rfl rfl ⟨Nat.le_of_ble_eq_true rfl, Nat.le_of_ble_eq_true rfl⟩ ⟨Nat.le_refl _, Nat.le_refl _⟩ (Nat.le_of_ble_eq_true rfl) dL_isReached_457 ?_
      obtain ⟨hq159, hf⟩ := zgrd hf
      refine R_if_lt X 477 hq159 dL_isReached_460 (by decide) (fun c165 => ?_) (fun c165 => ?_)
      · have hf := zthen hf c165
        exact R_sub [] rfl (hB477 M157 hf)
      · have hf := zelse hf c165
        refine R_aload_n X 1 dL_isReached_463 rfl rfl ?_
        obtain ⟨r160, M161, hc162, hf⟩ := zbnd_some hf
        refine R_callSl X (av := [.ref (ad 0)]) (rest := []) (c_L_all l D cas ad hi hc162) zy_L_all wm_L_48 rfl rfl ⟨Nat.le_of_ble_eq_true rfl, Nat.le_of_ble_eq_true rfl⟩ ⟨Nat.le_refl _, Nat.le_refl _⟩ (Nat.le_of_ble_eq_true rfl) dL_isReached_464 ?_
        refine R_lload X 2 dL_isReached_467 rfl ?_
        refine R_lcmp X dL_isReached_469 ?_
        obtain ⟨hq163, hf⟩ := zgrd hf
        refine R_if_ne X 477 hq163 dL_isReached_470 (by decide) (fun c164 => ?_) (fun c164 => ?_)
        · have hf := zelse hf c164
          exact R_sub [] rfl (hB477 M161 hf)
        · have hf := zthen hf c164
          refine R_iconst X dL_isReached_473 ?_
          refine R_goto X 478 dL_isReached_474 (by decide) ?_
          exact R_sub [] rfl (hB478 1 M161 hf)
  have hB448 : ∀ (v10 : Int) (M : Mem), f_L_isReached_b448 v10 M = some (r, M') → WW p l e (zrm 7 166) s m args below meth c D cas ad (zA ad) 16 0 0 (MQ below (zQi D cas ad r M') args s 0 0 (zA ad)) 448 [(0, .ref (ad 0)), (10, .long (zJ v10))] [] M := by
    intro v10 M hf
    unfold f_L_isReached_b448 at hf
    refine R_iconst X dL_isReached_448 ?_
    exact R_sub [0, 1] rfl (hB449 v10 0 M hf)
  have hB224 : ∀ (n : Nat) (v3 v4 v5 v6 v7 v8 v10 : Int) (M : Mem), f_L_isReached_b224 n v3 v4 v5 v6 v7 v8 v10 M = some (r, M') → WW p l e (zrm 7 166) s m args below meth c D cas ad (zA ad) 16 0 0 (MQ below (zQi D cas ad r M') args s 0 0 (zA ad)) 224 [(0, .ref (ad 0)), (3, .int (zI v3)), (4, .int (zI v4)), (5, .int (zI v5)), (6, .int (zI v6)), (7, .int (zI v7)), (8, .int (zI v8)), (10, .int (zI v10))] [] M := by
    intro n
    induction n with
    | zero => intro v3 v4 v5 v6 v7 v8 v10 M hf; exact absurd hf (by unfold f_L_isReached_b224; simp)
    | succ n ih =>
      intro v3 v4 v5 v6 v7 v8 v10 M hf
      unfold f_L_isReached_b224 at hf
      refine R_iload X 7 dL_isReached_224 rfl ?_
      refine R_iload X 5 dL_isReached_226 rfl ?_
      obtain ⟨hq85, hf⟩ := zgrd hf
      obtain ⟨hq86, hf⟩ := zgrd hf
      refine R_icmp_ge X 334 ⟨hq85, hq86⟩ dL_isReached_228 (by decide) (fun c153 => ?_) (fun c153 => ?_)
      · have hf := zthen hf c153
        refine R_aload_n X 0 dL_isReached_334 rfl rfl ?_
        obtain ⟨r87, M88, hc89, hf⟩ := zbnd_some hf
        refine R_callSl X (av := [.ref (ad 0)]) (rest := []) (c_L_all l D cas ad hi hc89) zy_L_all wm_L_48 rfl rfl ⟨Nat.le_of_ble_eq_true rfl, Nat.le_of_ble_eq_true rfl⟩ ⟨Nat.le_refl _, Nat.le_refl _⟩ (Nat.le_of_ble_eq_true rfl) dL_isReached_335 ?_
        refine R_lstore X (lv' := [(10, .long (zJ r87)), (0, .ref (ad 0)), (3, .int (zI v3)), (4, .int (zI v4)), (5, .int (zI v5)), (6, .int (zI v6)), (7, .int (zI v7)), (8, .int (zI v8))]) dL_isReached_338 (by decide) rfl ?_
        refine R_aload_n X 1 dL_isReached_340 rfl rfl ?_
        refine R_iload X 4 dL_isReached_341 rfl ?_
        refine R_iconst X dL_isReached_343 ?_
        obtain ⟨r90, M91, hc92, hf⟩ := zbnd_some hf
        refine R_callVi X (av := [.int (zI v5), .int (zI 1)]) (rest := []) (c_X9_shard l D cas ad hi hc92) zy_X9_shard lc_0 rfl rfl wm_L_26 rfl rfl ⟨Nat.le_of_ble_eq_true rfl, Nat.le_of_ble_eq_true rfl⟩ ⟨Nat.le_refl _, Nat.le_refl _⟩ (Nat.le_of_ble_eq_true rfl) dL_isReached_344 ?_
        refine R_istore X (lv' := [(12, .int (zI r90)), (10, .long (zJ r87)), (0, .ref (ad 0)), (3, .int (zI v3)), (4, .int (zI v4)), (5, .int (zI v5)), (6, .int (zI v6)), (7, .int (zI v7)), (8, .int (zI v8))]) dL_isReached_347 (by decide) rfl ?_
        refine R_aload_n X 2 dL_isReached_349 rfl rfl ?_
        refine R_bipush X dL_isReached_350 (by decide +kernel) ?_
        obtain ⟨r93, M94, hc95, hf⟩ := zbnd_some hf
        refine R_callVi X (av := [.int (zI 11)]) (rest := []) (c_X9_count l D cas ad hi hc95) zy_X9_count lc_0 rfl rfl wm_L_12 rfl rfl ⟨Nat.le_of_ble_eq_true rfl, Nat.le_of_ble_eq_true rfl⟩ ⟨Nat.le_refl _, Nat.le_refl _⟩ (Nat.le_of_ble_eq_true rfl) dL_isReached_352 ?_
        refine R_istore X (lv' := [(13, .int (zI r93)), (12, .int (zI r90)), (10, .long (zJ r87)), (0, .ref (ad 0)), (3, .int (zI v3)), (4, .int (zI v4)), (5, .int (zI v5)), (6, .int (zI v6)), (7, .int (zI v7)), (8, .int (zI v8))]) dL_isReached_355 (by decide) rfl ?_
        refine R_aload_n X 3 dL_isReached_357 rfl rfl ?_
        refine R_bipush X dL_isReached_358 (by decide +kernel) ?_
        obtain ⟨r96, M97, hc98, hf⟩ := zbnd_some hf
        refine R_callVi X (av := [.int (zI 12)]) (rest := []) (c_X9_count l D cas ad hi hc98) zy_X9_count lc_0 rfl rfl wm_L_12 rfl rfl ⟨Nat.le_of_ble_eq_true rfl, Nat.le_of_ble_eq_true rfl⟩ ⟨Nat.le_refl _, Nat.le_refl _⟩ (Nat.le_of_ble_eq_true rfl) dL_isReached_360 ?_
        refine R_istore X (lv' := [(14, .int (zI r96)), (13, .int (zI r93)), (12, .int (zI r90)), (10, .long (zJ r87)), (0, .ref (ad 0)), (3, .int (zI v3)), (4, .int (zI v4)), (5, .int (zI v5)), (6, .int (zI v6)), (7, .int (zI v7)), (8, .int (zI v8))]) dL_isReached_363 (by decide) rfl ?_
        refine R_aload_n X 4 dL_isReached_365 rfl rfl ?_
        refine R_iload_n X 5 dL_isReached_366 rfl rfl ?_
        refine R_iload X 6 dL_isReached_367 rfl ?_
        obtain ⟨r99, M100, hc101, hf⟩ := zbnd_some hf
        refine R_callVi X (av := [.int (zI v3), .int (zI v4)]) (rest := []) (c_X9_request l D cas ad hi hc101) zy_X9_request lc_0 rfl rfl wm_L_52 rfl rfl ⟨Nat.le_of_ble_eq_true rfl, Nat.le_of_ble_eq_true rfl⟩ ⟨Nat.le_refl _, Nat.le_refl _⟩ (Nat.le_of_ble_eq_true rfl) dL_isReached_369 ?_
        refine R_iload X 8 dL_isReached_372 rfl ?_
        obtain ⟨hq102, hf⟩ := zgrd hf
        refine R_icmp_neW X 448 hq102 dL_isReached_374 (by decide) (fun c132 => ?_) (fun c132 => ?_)
        · have hf := zelse hf c132
          exact R_sub [4, 3] rfl (hB448 r87 M100 hf)
        · have hf := zthen hf c132
          refine R_aload_n X 4 dL_isReached_377 rfl rfl ?_
          refine R_iload_n X 5 dL_isReached_378 rfl rfl ?_
          refine R_iload X 7 dL_isReached_379 rfl ?_
          obtain ⟨r103, M104, hc105, hf⟩ := zbnd_some hf
          refine R_callVi X (av := [.int (zI v3), .int (zI v5)]) (rest := []) (c_X9_remembered l D cas ad hi hc105) zy_X9_remembered lc_0 rfl rfl wm_L_31 rfl rfl ⟨Nat.le_of_ble_eq_true rfl, Nat.le_of_ble_eq_true rfl⟩ ⟨Nat.le_refl _, Nat.le_refl _⟩ (Nat.le_of_ble_eq_true rfl) dL_isReached_381 ?_
          refine R_aload_n X 4 dL_isReached_384 rfl rfl ?_
          refine R_iload X 7 dL_isReached_385 rfl ?_
          refine R_iconst X dL_isReached_387 ?_
          obtain ⟨r106, M107, hc108, hf⟩ := zbnd_some hf
          refine R_callVi X (av := [.int (zI v5), .int (zI 0)]) (rest := [.int (zI r103)]) (c_X9_shard l D cas ad hi hc108) zy_X9_shard lc_0 rfl rfl wm_L_26 rfl rfl ⟨Nat.le_of_ble_eq_true rfl, Nat.le_of_ble_eq_true rfl⟩ ⟨Nat.le_refl _, Nat.le_refl _⟩ (Nat.le_of_ble_eq_true rfl) dL_isReached_388 ?_
          obtain ⟨hq109, hf⟩ := zgrd hf
          refine R_icmp_neW X 448 hq109 dL_isReached_391 (by decide) (fun c131 => ?_) (fun c131 => ?_)
          · have hf := zelse hf c131
            exact R_sub [4, 3] rfl (hB448 r87 M107 hf)
          · have hf := zthen hf c131
            refine R_aload_n X 4 dL_isReached_394 rfl rfl ?_
            refine R_iload X 7 dL_isReached_395 rfl ?_
            refine R_iconst X dL_isReached_397 ?_
            obtain ⟨r110, M111, hc112, hf⟩ := zbnd_some hf
            refine R_callVi X (av := [.int (zI v5), .int (zI 1)]) (rest := []) (c_X9_shard l D cas ad hi hc112) zy_X9_shard lc_0 rfl rfl wm_L_26 rfl rfl ⟨Nat.le_of_ble_eq_true rfl, Nat.le_of_ble_eq_true rfl⟩ ⟨Nat.le_refl _, Nat.le_refl _⟩ (Nat.le_of_ble_eq_true rfl) dL_isReached_398 ?_
            refine R_iload X 2 dL_isReached_401 rfl ?_
            obtain ⟨hq113, hf⟩ := zgrd hf
            obtain ⟨hq114, hf⟩ := zgrd hf
            refine R_icmp_lt X 448 ⟨hq113, hq114⟩ dL_isReached_403 (by decide) (fun c130 => ?_) (fun c130 => ?_)
            · have hf := zthen hf c130
              exact R_sub [4, 3] rfl (hB448 r87 M111 hf)
            · have hf := zelse hf c130
              refine R_aload_n X 4 dL_isReached_406 rfl rfl ?_
              refine R_bipush X dL_isReached_407 (by decide +kernel) ?_
              obtain ⟨r115, M116, hc117, hf⟩ := zbnd_some hf
              refine R_callVi X (av := [.int (zI 11)]) (rest := []) (c_X9_count l D cas ad hi hc117) zy_X9_count lc_0 rfl rfl wm_L_12 rfl rfl ⟨Nat.le_of_ble_eq_true rfl, Nat.le_of_ble_eq_true rfl⟩ ⟨Nat.le_refl _, Nat.le_refl _⟩ (Nat.le_of_ble_eq_true rfl) dL_isReached_409 ?_
              refine R_iload X 1 dL_isReached_412 rfl ?_
              refine R_iconst X dL_isReached_414 ?_
              refine R_iadd X dL_isReached_415 ?_
              obtain ⟨hq118, hf⟩ := zgrd hf
              refine R_icmp_neW X 448 hq118 dL_isReached_416 (by decide) (fun c129 => ?_) (fun c129 => ?_)
              · have hf := zelse hf c129
                exact R_sub [4, 3] rfl (hB448 r87 M116 hf)
              · have hf := zthen hf c129
                refine R_aload_n X 4 dL_isReached_419 rfl rfl ?_
                refine R_bipush X dL_isReached_420 (by decide +kernel) ?_
                obtain ⟨r119, M120, hc121, hf⟩ := zbnd_some hf
                refine R_callVi X (av := [.int (zI 12)]) (rest := []) (c_X9_count l D cas ad hi hc121) zy_X9_count lc_0 rfl rfl wm_L_12 rfl rfl ⟨Nat.le_of_ble_eq_true rfl, Nat.le_of_ble_eq_true rfl⟩ ⟨Nat.le_refl _, Nat.le_refl _⟩ (Nat.le_of_ble_eq_true rfl) dL_isReached_422 ?_
                refine R_iload X 0 dL_isReached_425 rfl ?_
                refine R_iload X 10 dL_isReached_427 rfl ?_
                refine R_iadd X dL_isReached_429 ?_
                obtain ⟨hq122, hf⟩ := zgrd hf
                refine R_icmp_neW X 448 hq122 dL_isReached_430 (by decide) (fun c128 => ?_) (fun c128 => ?_)
                · have hf := zelse hf c128
                  exact R_sub [4, 3] rfl (hB448 r87 M120 hf)
                · have hf := zthen hf c128
                  refine R_aload_n X 4 dL_isReached_433 rfl rfl ?_
                  refine R_iload_n X 5 dL_isReached_434 rfl rfl ?_
                  refine R_iload X 6 dL_isReached_435 rfl ?_
                  refine R_iconst X dL_isReached_437 ?_
                  obtain ⟨r123, M124, hc125, hf⟩ := zbnd_some hf
                  refine R_callVi X (av := [.int (zI v3), .int (zI v4), .int (zI 0)]) (rest := []) (c_X9_reach l D cas ad hi hc125) zy_X9_reach lc_0 rfl rfl wm_L_39 rfl rfl ⟨Nat.le_of_ble_eq_true rfl, Nat.le_of_ble_eq_true rfl⟩ ⟨Nat.le_refl _, Nat.le_refl _⟩ (Nat.le_of_ble_eq_true rfl) dL_isReached_438 ?_
                  obtain ⟨hq126, hf⟩ := zgrd hf
                  refine R_if_ne X 448 hq126 dL_isReached_441 (by decide) (fun c127 => ?_) (fun c127 => ?_)
                  · have hf := zelse hf c127
                    exact R_sub [4, 3] rfl (hB448 r87 M124 hf)
                  · have hf := zthen hf c127
                    refine R_iconst X dL_isReached_444 ?_
                    refine R_goto X 449 dL_isReached_445 (by decide) ?_
                    exact R_sub [4, 3] rfl (hB449 r87 1 M124 hf)
      · have hf := zelse hf c153
        refine R_aload_n X 0 dL_isReached_231 rfl rfl ?_
        refine R_iload_n X 1 dL_isReached_232 rfl rfl ?_
        refine R_iload X 2 dL_isReached_233 rfl ?_
        refine R_iload X 7 dL_isReached_235 rfl ?_
        obtain ⟨r133, M134, hc135, hf⟩ := zbnd_some hf
        refine R_callVi X (av := [.int (zI v3), .int (zI v4), .int (zI v10)]) (rest := []) (c_X9_way l D cas ad hi hc135) zy_X9_way lc_0 rfl rfl wm_L_42 rfl rfl ⟨Nat.le_of_ble_eq_true rfl, Nat.le_of_ble_eq_true rfl⟩ ⟨Nat.le_refl _, Nat.le_refl _⟩ (Nat.le_of_ble_eq_true rfl) dL_isReached_237 ?_
        refine R_istore X (lv' := [(11, .int (zI r133)), (0, .ref (ad 0)), (3, .int (zI v3)), (4, .int (zI v4)), (5, .int (zI v5)), (6, .int (zI v6)), (7, .int (zI v7)), (8, .int (zI v8)), (10, .int (zI v10))]) dL_isReached_240 (by decide) rfl ?_
        refine R_aload_n X 1 dL_isReached_242 rfl rfl ?_
        refine R_iload_n X 2 dL_isReached_243 rfl rfl ?_
        refine R_iload X 3 dL_isReached_244 rfl ?_
        refine R_iload X 8 dL_isReached_246 rfl ?_
        refine R_iconst X dL_isReached_248 ?_
        refine R_iadd X dL_isReached_249 ?_
        obtain ⟨r136, M137, hc138, hf⟩ := zbnd_some hf
        refine R_callVi X (av := [.int (zI v3), .int (zI v4), .int (zI (v10 + 1))]) (rest := []) (c_X9_way l D cas ad hi hc138) zy_X9_way lc_0 rfl rfl wm_L_42 rfl rfl ⟨Nat.le_of_ble_eq_true rfl, Nat.le_of_ble_eq_true rfl⟩ ⟨Nat.le_refl _, Nat.le_refl _⟩ (Nat.le_of_ble_eq_true rfl) dL_isReached_250 ?_
        refine R_istore X (lv' := [(12, .int (zI r136)), (11, .int (zI r133)), (0, .ref (ad 0)), (3, .int (zI v3)), (4, .int (zI v4)), (5, .int (zI v5)), (6, .int (zI v6)), (7, .int (zI v7)), (8, .int (zI v8)), (10, .int (zI v10))]) dL_isReached_253 (by decide) rfl ?_
        refine R_aload_n X 2 dL_isReached_255 rfl rfl ?_
        refine R_iload X 1 dL_isReached_256 rfl ?_
        refine R_iload X 5 dL_isReached_258 rfl ?_
        refine R_iconst X dL_isReached_260 ?_
        obtain ⟨r139, M140, hc141, hf⟩ := zbnd_some hf
        refine R_callVi X (av := [.int (zI r133), .int (zI v5), .int (zI 0)]) (rest := []) (c_X9_track l D cas ad hi hc141) zy_X9_track lc_0 rfl rfl wm_L_22 rfl rfl ⟨Nat.le_of_ble_eq_true rfl, Nat.le_of_ble_eq_true rfl⟩ ⟨Nat.le_refl _, Nat.le_refl _⟩ (Nat.le_of_ble_eq_true rfl) dL_isReached_261 ?_
        refine R_istore X (lv' := [(13, .int (zI r139)), (12, .int (zI r136)), (11, .int (zI r133)), (0, .ref (ad 0)), (3, .int (zI v3)), (4, .int (zI v4)), (5, .int (zI v5)), (6, .int (zI v6)), (7, .int (zI v7)), (8, .int (zI v8)), (10, .int (zI v10))]) dL_isReached_264 (by decide) rfl ?_
        refine R_iload X 2 dL_isReached_266 rfl ?_
        refine R_aload_n X 3 dL_isReached_268 rfl rfl ?_
        refine R_iload X 6 dL_isReached_269 rfl ?_
        refine R_iconst X dL_isReached_271 ?_
        obtain ⟨r142, M143, hc144, hf⟩ := zbnd_some hf
        refine R_callVi X (av := [.int (zI v5), .int (zI 0)]) (rest := [.int (zI r133)]) (c_X9_shard l D cas ad hi hc144) zy_X9_shard lc_0 rfl rfl wm_L_26 rfl rfl ⟨Nat.le_of_ble_eq_true rfl, Nat.le_of_ble_eq_true rfl⟩ ⟨Nat.le_refl _, Nat.le_refl _⟩ (Nat.le_of_ble_eq_true rfl) dL_isReached_272 ?_
        obtain ⟨hq145, hf⟩ := zgrd hf
        refine R_icmp_eqW X 326 hq145 dL_isReached_275 (by decide) (fun c152 => ?_) (fun c152 => ?_)
        · have hf := zthen hf c152
          exact R_sub [] rfl (hB326 M143 hf)
        · have hf := zelse hf c152
          refine R_iload X 2 dL_isReached_278 rfl ?_
          refine R_iload X 1 dL_isReached_280 rfl ?_
          obtain ⟨hq146, hf⟩ := zgrd hf
          refine R_icmp_eqW X 326 hq146 dL_isReached_282 (by decide) (fun c151 => ?_) (fun c151 => ?_)
          · have hf := zthen hf c151
            exact R_sub [] rfl (hB326 M143 hf)
          · have hf := zelse hf c151
            refine R_iload X 0 dL_isReached_285 rfl ?_
            obtain ⟨hq147, hf⟩ := zgrd hf
            refine R_if_lt X 297 hq147 dL_isReached_287 (by decide) (fun c150 => ?_) (fun c150 => ?_)
            · have hf := zthen hf c150
              exact R_sub [3, 4, 5, 6, 7, 8, 9, 10, 2, 1, 0] rfl (hB297 (f_L_isReached_b224 n) ih v3 v4 v5 v6 v7 v8 v10 r133 r136 r139 M143 hf)
            · have hf := zelse hf c150
              refine R_iload X 1 dL_isReached_290 rfl ?_
              refine R_iload X 0 dL_isReached_292 rfl ?_
              obtain ⟨hq148, hf⟩ := zgrd hf
              refine R_icmp_neW X 326 hq148 dL_isReached_294 (by decide) (fun c149 => ?_) (fun c149 => ?_)
              · have hf := zelse hf c149
                exact R_sub [] rfl (hB326 M143 hf)
              · have hf := zthen hf c149
                exact R_sub [3, 4, 5, 6, 7, 8, 9, 10, 2, 1, 0] rfl (hB297 (f_L_isReached_b224 n) ih v3 v4 v5 v6 v7 v8 v10 r133 r136 r139 M143 hf)
  unfold f_L_isReached at hf
  refine (?_ : WW p l e (zrm 7 166) s m args below meth c D cas ad (zA ad) 16 0 0 (MQ below (zQi D cas ad r M') args s 0 0 (zA ad)) 0 [(0, .ref (ad 0)), (1, .int (zI v1))] [] M)
  refine R_aload_n X 0 dL_isReached_0 rfl rfl ?_
  refine R_bipush X dL_isReached_1 (by decide +kernel) ?_
  obtain ⟨r1, M2, hc3, hf⟩ := zbnd_some hf
  refine R_callVi X (av := [.int (zI 6)]) (rest := []) (c_X9_count l D cas ad hi hc3) zy_X9_count lc_0 rfl rfl wm_L_12 rfl rfl ⟨Nat.le_of_ble_eq_true rfl, Nat.le_of_ble_eq_true rfl⟩ ⟨Nat.le_refl _, Nat.le_refl _⟩ (Nat.le_of_ble_eq_true rfl) dL_isReached_3 ?_
  refine R_istore_n X (lv' := [(2, .int (zI r1)), (0, .ref (ad 0)), (1, .int (zI v1))]) dL_isReached_6 rfl (by decide) rfl ?_
  refine R_iload_n X 0 dL_isReached_7 rfl rfl ?_
  obtain ⟨hq4, hf⟩ := zgrd hf
  refine R_if_ne X 39 hq4 dL_isReached_8 (by decide) (fun c84 => ?_) (fun c84 => ?_)
  · have hf := zelse hf c84
    refine R_iload_n X 2 dL_isReached_39 rfl rfl ?_
    refine R_iload_n X 0 dL_isReached_40 rfl rfl ?_
    obtain ⟨r5, M6, hc7, hf⟩ := zbnd_some hf
    refine R_callSi X (av := [.int (zI v1), .int (zI r1)]) (rest := []) (c_L_low l D cas ad hi hc7) zy_L_low wm_L_45 rfl rfl ⟨Nat.le_of_ble_eq_true rfl, Nat.le_of_ble_eq_true rfl⟩ ⟨Nat.le_refl _, Nat.le_refl _⟩ (Nat.le_of_ble_eq_true rfl) dL_isReached_41 ?_
    refine R_istore_n X (lv' := [(3, .int (zI r5)), (2, .int (zI r1)), (0, .ref (ad 0)), (1, .int (zI v1))]) dL_isReached_44 rfl (by decide) rfl ?_
    refine R_iload_n X 3 dL_isReached_45 rfl rfl ?_
    refine R_iconst X dL_isReached_46 ?_
    refine R_ishr X dL_isReached_47 ?_
    refine R_sipush X dL_isReached_48 (by decide +kernel) ?_
    obtain ⟨r8, M9, hc10, hf⟩ := zbnd_some hf
    refine R_callSi X (av := [.int (zI (ishr v1 3)), .int (zI 256)]) (rest := []) (c_L_low l D cas ad hi hc10) zy_L_low wm_L_45 rfl rfl ⟨Nat.le_of_ble_eq_true rfl, Nat.le_of_ble_eq_true rfl⟩ ⟨Nat.le_refl _, Nat.le_refl _⟩ (Nat.le_of_ble_eq_true rfl) dL_isReached_51 ?_
    refine R_istore X (lv' := [(4, .int (zI r8)), (3, .int (zI r5)), (2, .int (zI r1)), (0, .ref (ad 0)), (1, .int (zI v1))]) dL_isReached_54 (by decide) rfl ?_
    refine R_iload X 0 dL_isReached_56 rfl ?_
    refine R_bipush X dL_isReached_58 (by decide +kernel) ?_
    obtain ⟨hq11, hf⟩ := zgrd hf
    refine R_idiv X ⟨⟨hq11, (by decide)⟩, (by decide)⟩ dL_isReached_60 ?_
    obtain ⟨x12, ex12, hf⟩ := zlt_some hf
    refine R_istoreX X (lv' := [(5, .int (zI x12)), (4, .int (zI r8)), (3, .int (zI r5)), (2, .int (zI r1)), (0, .ref (ad 0)), (1, .int (zI v1))]) ex12 dL_isReached_61 (by decide) rfl ?_
    refine R_aload_n X 4 dL_isReached_63 rfl rfl ?_
    refine R_iload_n X 2 dL_isReached_64 rfl rfl ?_
    refine R_iload X 1 dL_isReached_65 rfl ?_
    refine R_iconst X dL_isReached_67 ?_
    obtain ⟨r13, M14, hc15, hf⟩ := zbnd_some hf
    refine R_callVi X (av := [.int (zI r5), .int (zI r8), .int (zI 0)]) (rest := []) (c_X9_reach l D cas ad hi hc15) zy_X9_reach lc_0 rfl rfl wm_L_39 rfl rfl ⟨Nat.le_of_ble_eq_true rfl, Nat.le_of_ble_eq_true rfl⟩ ⟨Nat.le_refl _, Nat.le_refl _⟩ (Nat.le_of_ble_eq_true rfl) dL_isReached_68 ?_
    refine R_istore X (lv' := [(6, .int (zI r13)), (5, .int (zI x12)), (4, .int (zI r8)), (3, .int (zI r5)), (2, .int (zI r1)), (0, .ref (ad 0)), (1, .int (zI v1))]) dL_isReached_71 (by decide) rfl ?_
    refine R_aload_n X 5 dL_isReached_73 rfl rfl ?_
    refine R_iload_n X 3 dL_isReached_74 rfl rfl ?_
    refine R_iload X 2 dL_isReached_75 rfl ?_
    refine R_iconst X dL_isReached_77 ?_
    obtain ⟨r16, M17, hc18, hf⟩ := zbnd_some hf
    refine R_callVi X (av := [.int (zI r5), .int (zI r8), .int (zI 1)]) (rest := []) (c_X9_reach l D cas ad hi hc18) zy_X9_reach lc_0 rfl rfl wm_L_39 rfl rfl ⟨Nat.le_of_ble_eq_true rfl, Nat.le_of_ble_eq_true rfl⟩ ⟨Nat.le_refl _, Nat.le_refl _⟩ (Nat.le_of_ble_eq_true rfl) dL_isReached_78 ?_
    refine R_aload_n X 5 dL_isReached_81 rfl rfl ?_
    refine R_iload_n X 3 dL_isReached_82 rfl rfl ?_
    refine R_iload X 2 dL_isReached_83 rfl ?_
    refine R_iconst X dL_isReached_85 ?_
    obtain ⟨r19, M20, hc21, hf⟩ := zbnd_some hf
    refine R_callVi X (av := [.int (zI r5), .int (zI r8), .int (zI 2)]) (rest := [.int (zI r16)]) (c_X9_reach l D cas ad hi hc21) zy_X9_reach lc_0 rfl rfl wm_L_39 rfl rfl ⟨Nat.le_of_ble_eq_true rfl, Nat.le_of_ble_eq_true rfl⟩ ⟨Nat.le_refl _, Nat.le_refl _⟩ (Nat.le_of_ble_eq_true rfl) dL_isReached_86 ?_
    refine R_iadd X dL_isReached_89 ?_
    refine R_aload_n X 5 dL_isReached_90 rfl rfl ?_
    refine R_iload_n X 3 dL_isReached_91 rfl rfl ?_
    refine R_iload X 2 dL_isReached_92 rfl ?_
    refine R_iconst X dL_isReached_94 ?_
    obtain ⟨r22, M23, hc24, hf⟩ := zbnd_some hf
    refine R_callVi X (av := [.int (zI r5), .int (zI r8), .int (zI 3)]) (rest := [.int (zI (r16 + r19))]) (c_X9_reach l D cas ad hi hc24) zy_X9_reach lc_0 rfl rfl wm_L_39 rfl rfl ⟨Nat.le_of_ble_eq_true rfl, Nat.le_of_ble_eq_true rfl⟩ ⟨Nat.le_refl _, Nat.le_refl _⟩ (Nat.le_of_ble_eq_true rfl) dL_isReached_95 ?_
    refine R_iadd X dL_isReached_98 ?_
    obtain ⟨x25, ex25, hf⟩ := zlt_some hf
    refine R_istoreX X (lv' := [(7, .int (zI x25)), (6, .int (zI r13)), (5, .int (zI x12)), (4, .int (zI r8)), (3, .int (zI r5)), (2, .int (zI r1)), (0, .ref (ad 0)), (1, .int (zI v1))]) ex25 dL_isReached_99 (by decide) rfl ?_
    refine R_aload_n X 6 dL_isReached_101 rfl rfl ?_
    refine R_iload_n X 4 dL_isReached_102 rfl rfl ?_
    refine R_iload X 3 dL_isReached_103 rfl ?_
    refine R_iconst X dL_isReached_105 ?_
    obtain ⟨r26, M27, hc28, hf⟩ := zbnd_some hf
    refine R_callVi X (av := [.int (zI r5), .int (zI r8), .int (zI 4)]) (rest := []) (c_X9_reach l D cas ad hi hc28) zy_X9_reach lc_0 rfl rfl wm_L_39 rfl rfl ⟨Nat.le_of_ble_eq_true rfl, Nat.le_of_ble_eq_true rfl⟩ ⟨Nat.le_refl _, Nat.le_refl _⟩ (Nat.le_of_ble_eq_true rfl) dL_isReached_106 ?_
    refine R_istore X (lv' := [(8, .int (zI r26)), (7, .int (zI x25)), (6, .int (zI r13)), (5, .int (zI x12)), (4, .int (zI r8)), (3, .int (zI r5)), (2, .int (zI r1)), (0, .ref (ad 0)), (1, .int (zI v1))]) dL_isReached_109 (by decide) rfl ?_
    refine R_iload X 1 dL_isReached_111 rfl ?_
    refine R_iload X 0 dL_isReached_113 rfl ?_
    refine R_iadd X dL_isReached_115 ?_
    obtain ⟨x29, ex29, hf⟩ := zlt_some hf
    refine R_istoreX X (lv' := [(9, .int (zI x29)), (8, .int (zI r26)), (7, .int (zI x25)), (6, .int (zI r13)), (5, .int (zI x12)), (4, .int (zI r8)), (3, .int (zI r5)), (2, .int (zI r1)), (0, .ref (ad 0)), (1, .int (zI v1))]) ex29 dL_isReached_116 (by decide) rfl ?_
    refine R_iload X 3 dL_isReached_118 rfl ?_
    refine R_iload X 2 dL_isReached_120 rfl ?_
    refine R_iload X 1 dL_isReached_122 rfl ?_
    refine R_aload_n X 8 dL_isReached_124 rfl rfl ?_
    refine R_iconst X dL_isReached_125 ?_
    obtain ⟨r30, M31, hc32, hf⟩ := zbnd_some hf
    refine R_callVi X (av := [.int (zI 3)]) (rest := [.int (zI r26), .int (zI x25), .int (zI r13)]) (c_X9_count l D cas ad hi hc32) zy_X9_count lc_0 rfl rfl wm_L_12 rfl rfl ⟨Nat.le_of_ble_eq_true rfl, Nat.le_of_ble_eq_true rfl⟩ ⟨Nat.le_refl _, Nat.le_refl _⟩ (Nat.le_of_ble_eq_true rfl) dL_isReached_126 ?_
    refine R_imul X dL_isReached_129 ?_
    refine R_iadd X dL_isReached_130 ?_
    obtain ⟨hq33, hf⟩ := zgrd hf
    refine R_icmp_neW X 219 hq33 dL_isReached_131 (by decide) (fun c73 => ?_) (fun c73 => ?_)
    · have hf := zelse hf c73
      exact R_sub [] rfl (hB219 M31 hf)
    · have hf := zthen hf c73
      refine R_aload_n X 8 dL_isReached_134 rfl rfl ?_
      refine R_iload_n X 6 dL_isReached_135 rfl rfl ?_
      refine R_iload X 5 dL_isReached_136 rfl ?_
      refine R_iconst X dL_isReached_138 ?_
      obtain ⟨r34, M35, hc36, hf⟩ := zbnd_some hf
      refine R_callVi X (av := [.int (zI r5), .int (zI r8), .int (zI 0)]) (rest := []) (c_X9_way l D cas ad hi hc36) zy_X9_way lc_0 rfl rfl wm_L_42 rfl rfl ⟨Nat.le_of_ble_eq_true rfl, Nat.le_of_ble_eq_true rfl⟩ ⟨Nat.le_refl _, Nat.le_refl _⟩ (Nat.le_of_ble_eq_true rfl) dL_isReached_139 ?_
      refine R_aload_n X 8 dL_isReached_142 rfl rfl ?_
      refine R_iload_n X 6 dL_isReached_143 rfl rfl ?_
      refine R_iload X 4 dL_isReached_144 rfl ?_
      obtain ⟨r37, M38, hc39, hf⟩ := zbnd_some hf
      refine R_callVi X (av := [.int (zI r5), .int (zI x12)]) (rest := [.int (zI r34)]) (c_X9_remembered l D cas ad hi hc39) zy_X9_remembered lc_0 rfl rfl wm_L_31 rfl rfl ⟨Nat.le_of_ble_eq_true rfl, Nat.le_of_ble_eq_true rfl⟩ ⟨Nat.le_refl _, Nat.le_refl _⟩ (Nat.le_of_ble_eq_true rfl) dL_isReached_146 ?_
      obtain ⟨hq40, hf⟩ := zgrd hf
      refine R_icmp_neW X 219 hq40 dL_isReached_149 (by decide) (fun c72 => ?_) (fun c72 => ?_)
      · have hf := zelse hf c72
        exact R_sub [] rfl (hB219 M38 hf)
      · have hf := zthen hf c72
        refine R_aload_n X 8 dL_isReached_152 rfl rfl ?_
        refine R_iload_n X 6 dL_isReached_153 rfl rfl ?_
        refine R_iload X 5 dL_isReached_154 rfl ?_
        refine R_iload X 0 dL_isReached_156 rfl ?_
        obtain ⟨r41, M42, hc43, hf⟩ := zbnd_some hf
        refine R_callVi X (av := [.int (zI r5), .int (zI r8), .int (zI x29)]) (rest := []) (c_X9_way l D cas ad hi hc43) zy_X9_way lc_0 rfl rfl wm_L_42 rfl rfl ⟨Nat.le_of_ble_eq_true rfl, Nat.le_of_ble_eq_true rfl⟩ ⟨Nat.le_refl _, Nat.le_refl _⟩ (Nat.le_of_ble_eq_true rfl) dL_isReached_158 ?_
        refine R_aload_n X 8 dL_isReached_161 rfl rfl ?_
        refine R_iload X 4 dL_isReached_162 rfl ?_
        refine R_iconst X dL_isReached_164 ?_
        obtain ⟨r44, M45, hc46, hf⟩ := zbnd_some hf
        refine R_callVi X (av := [.int (zI x12), .int (zI 0)]) (rest := [.int (zI r41)]) (c_X9_shard l D cas ad hi hc46) zy_X9_shard lc_0 rfl rfl wm_L_26 rfl rfl ⟨Nat.le_of_ble_eq_true rfl, Nat.le_of_ble_eq_true rfl⟩ ⟨Nat.le_refl _, Nat.le_refl _⟩ (Nat.le_of_ble_eq_true rfl) dL_isReached_165 ?_
        obtain ⟨hq47, hf⟩ := zgrd hf
        refine R_icmp_neW X 219 hq47 dL_isReached_168 (by decide) (fun c71 => ?_) (fun c71 => ?_)
        · have hf := zelse hf c71
          exact R_sub [] rfl (hB219 M45 hf)
        · have hf := zthen hf c71
          refine R_aload_n X 8 dL_isReached_171 rfl rfl ?_
          refine R_iload_n X 6 dL_isReached_172 rfl rfl ?_
          refine R_iload X 5 dL_isReached_173 rfl ?_
          refine R_iload X 0 dL_isReached_175 rfl ?_
          refine R_iconst X dL_isReached_177 ?_
          refine R_iadd X dL_isReached_178 ?_
          obtain ⟨r48, M49, hc50, hf⟩ := zbnd_some hf
          refine R_callVi X (av := [.int (zI r5), .int (zI r8), .int (zI (x29 + 1))]) (rest := []) (c_X9_way l D cas ad hi hc50) zy_X9_way lc_0 rfl rfl wm_L_42 rfl rfl ⟨Nat.le_of_ble_eq_true rfl, Nat.le_of_ble_eq_true rfl⟩ ⟨Nat.le_refl _, Nat.le_refl _⟩ (Nat.le_of_ble_eq_true rfl) dL_isReached_179 ?_
          refine R_bipush X dL_isReached_182 (by decide +kernel) ?_
          obtain ⟨hq51, hf⟩ := zgrd hf
          refine R_icmp_ne X 219 ⟨hq51, (by decide)⟩ dL_isReached_184 (by decide) (fun c70 => ?_) (fun c70 => ?_)
          · have hf := zelse hf c70
            exact R_sub [] rfl (hB219 M49 hf)
          · have hf := zthen hf c70
            refine R_aload_n X 8 dL_isReached_187 rfl rfl ?_
            refine R_iload_n X 6 dL_isReached_188 rfl rfl ?_
            refine R_iload X 5 dL_isReached_189 rfl ?_
            refine R_iconst X dL_isReached_191 ?_
            obtain ⟨r52, M53, hc54, hf⟩ := zbnd_some hf
            refine R_callVi X (av := [.int (zI r5), .int (zI r8), .int (zI 2)]) (rest := []) (c_X9_reach l D cas ad hi hc54) zy_X9_reach lc_0 rfl rfl wm_L_39 rfl rfl ⟨Nat.le_of_ble_eq_true rfl, Nat.le_of_ble_eq_true rfl⟩ ⟨Nat.le_refl _, Nat.le_refl _⟩ (Nat.le_of_ble_eq_true rfl) dL_isReached_192 ?_
            refine R_aload_n X 8 dL_isReached_195 rfl rfl ?_
            refine R_iconst X dL_isReached_196 ?_
            obtain ⟨r55, M56, hc57, hf⟩ := zbnd_some hf
            refine R_callVi X (av := [.int (zI 4)]) (rest := [.int (zI r52)]) (c_X9_count l D cas ad hi hc57) zy_X9_count lc_0 rfl rfl wm_L_12 rfl rfl ⟨Nat.le_of_ble_eq_true rfl, Nat.le_of_ble_eq_true rfl⟩ ⟨Nat.le_refl _, Nat.le_refl _⟩ (Nat.le_of_ble_eq_true rfl) dL_isReached_197 ?_
            obtain ⟨hq58, hf⟩ := zgrd hf
            obtain ⟨hq59, hf⟩ := zgrd hf
            refine R_icmp_gt X 219 ⟨hq58, hq59⟩ dL_isReached_200 (by decide) (fun c69 => ?_) (fun c69 => ?_)
            · have hf := zthen hf c69
              exact R_sub [] rfl (hB219 M56 hf)
            · have hf := zelse hf c69
              refine R_aload_n X 8 dL_isReached_203 rfl rfl ?_
              refine R_iload_n X 6 dL_isReached_204 rfl rfl ?_
              refine R_iload X 5 dL_isReached_205 rfl ?_
              refine R_iconst X dL_isReached_207 ?_
              obtain ⟨r60, M61, hc62, hf⟩ := zbnd_some hf
              refine R_callVi X (av := [.int (zI r5), .int (zI r8), .int (zI 3)]) (rest := []) (c_X9_reach l D cas ad hi hc62) zy_X9_reach lc_0 rfl rfl wm_L_39 rfl rfl ⟨Nat.le_of_ble_eq_true rfl, Nat.le_of_ble_eq_true rfl⟩ ⟨Nat.le_refl _, Nat.le_refl _⟩ (Nat.le_of_ble_eq_true rfl) dL_isReached_208 ?_
              refine R_aload_n X 8 dL_isReached_211 rfl rfl ?_
              refine R_iconst X dL_isReached_212 ?_
              obtain ⟨r63, M64, hc65, hf⟩ := zbnd_some hf
              refine R_callVi X (av := [.int (zI 4)]) (rest := [.int (zI r60)]) (c_X9_count l D cas ad hi hc65) zy_X9_count lc_0 rfl rfl wm_L_12 rfl rfl ⟨Nat.le_of_ble_eq_true rfl, Nat.le_of_ble_eq_true rfl⟩ ⟨Nat.le_refl _, Nat.le_refl _⟩ (Nat.le_of_ble_eq_true rfl) dL_isReached_213 ?_
              obtain ⟨hq66, hf⟩ := zgrd hf
              obtain ⟨hq67, hf⟩ := zgrd hf
              refine R_icmp_le X 221 ⟨hq66, hq67⟩ dL_isReached_216 (by decide) (fun c68 => ?_) (fun c68 => ?_)
              · have hf := zthen hf c68
                refine R_iconst X dL_isReached_221 ?_
                refine R_istore X (lv' := [(10, .int (zI 0)), (9, .int (zI x29)), (8, .int (zI r26)), (7, .int (zI x25)), (6, .int (zI r13)), (5, .int (zI x12)), (4, .int (zI r8)), (3, .int (zI r5)), (2, .int (zI r1)), (0, .ref (ad 0)), (1, .int (zI v1))]) dL_isReached_222 (by decide) rfl ?_
                exact R_sub [9, 7, 6, 5, 4, 3, 2, 0] rfl (hB224 100000 r5 r8 x12 r13 x25 r26 0 M64 hf)
              · have hf := zelse hf c68
                exact R_sub [] rfl (hB219 M64 hf)
  · have hf := zthen hf c84
    refine R_aload_n X 1 dL_isReached_11 rfl rfl ?_
    refine R_iconst X dL_isReached_12 ?_
    refine R_iconst X dL_isReached_13 ?_
    refine R_iconst X dL_isReached_14 ?_
    obtain ⟨r74, M75, hc76, hf⟩ := zbnd_some hf
    refine R_callVi X (av := [.int (zI 0), .int (zI 0), .int (zI 0)]) (rest := []) (c_X9_reach l D cas ad hi hc76) zy_X9_reach lc_0 rfl rfl wm_L_39 rfl rfl ⟨Nat.le_of_ble_eq_true rfl, Nat.le_of_ble_eq_true rfl⟩ ⟨Nat.le_refl _, Nat.le_refl _⟩ (Nat.le_of_ble_eq_true rfl) dL_isReached_15 ?_
    refine R_iconst X dL_isReached_18 ?_
    obtain ⟨hq77, hf⟩ := zgrd hf
    refine R_icmp_ne X 37 ⟨hq77, (by decide)⟩ dL_isReached_19 (by decide) (fun c83 => ?_) (fun c83 => ?_)
    · have hf := zelse hf c83
      exact R_sub [] rfl (hB37 M75 hf)
    · have hf := zthen hf c83
      refine R_aload_n X 1 dL_isReached_22 rfl rfl ?_
      refine R_iconst X dL_isReached_23 ?_
      refine R_iconst X dL_isReached_24 ?_
      refine R_iconst X dL_isReached_25 ?_
      obtain ⟨r78, M79, hc80, hf⟩ := zbnd_some hf
      refine R_callVi X (av := [.int (zI 0), .int (zI 0), .int (zI 0)]) (rest := []) (c_X9_way l D cas ad hi hc80) zy_X9_way lc_0 rfl rfl wm_L_42 rfl rfl ⟨Nat.le_of_ble_eq_true rfl, Nat.le_of_ble_eq_true rfl⟩ ⟨Nat.le_refl _, Nat.le_refl _⟩ (Nat.le_of_ble_eq_true rfl) dL_isReached_26 ?_
      refine R_iconst X dL_isReached_29 ?_
      obtain ⟨hq81, hf⟩ := zgrd hf
      refine R_icmp_ne X 37 ⟨hq81, (by decide)⟩ dL_isReached_30 (by decide) (fun c82 => ?_) (fun c82 => ?_)
      · have hf := zelse hf c82
        exact R_sub [] rfl (hB37 M79 hf)
      · have hf := zthen hf c82
        refine R_iconst X dL_isReached_33 ?_
        refine R_goto X 38 dL_isReached_34 (by decide) ?_
        exact R_sub [] rfl (hB38 1 M79 hf)

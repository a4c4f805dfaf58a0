theorem dX10_tracksIn_0 : decode cX10_tracksIn 0 = .ok (.iconst 0, 1) := by decide +kernel
theorem dX10_tracksIn_1 : decode cX10_tracksIn 1 = .ok (.istore_n 2, 1) := by decide +kernel
theorem dX10_tracksIn_2 : decode cX10_tracksIn 2 = .ok (.iconst 0, 1) := by decide +kernel
theorem dX10_tracksIn_3 : decode cX10_tracksIn 3 = .ok (.istore_n 3, 1) := by decide +kernel
theorem dX10_tracksIn_4 : decode cX10_tracksIn 4 = .ok (.iload_n 3, 1) := by decide +kernel
theorem dX10_tracksIn_5 : decode cX10_tracksIn 5 = .ok (.bipush 16, 2) := by decide +kernel
theorem dX10_tracksIn_7 : decode cX10_tracksIn 7 = .ok (.if_icmp .ge 26, 3) := by decide +kernel
theorem dX10_tracksIn_10 : decode cX10_tracksIn 10 = .ok (.iload_n 2, 1) := by decide +kernel
theorem dX10_tracksIn_11 : decode cX10_tracksIn 11 = .ok (.aload_n 0, 1) := by decide +kernel
theorem dX10_tracksIn_12 : decode cX10_tracksIn 12 = .ok (.iload_n 1, 1) := by decide +kernel
theorem dX10_tracksIn_13 : decode cX10_tracksIn 13 = .ok (.iload_n 3, 1) := by decide +kernel
theorem dX10_tracksIn_14 : decode cX10_tracksIn 14 = .ok (.invokevirtual 80, 3) := by decide +kernel
theorem dX10_tracksIn_17 : decode cX10_tracksIn 17 = .ok (.ifCond .eq 7, 3) := by decide +kernel
theorem dX10_tracksIn_20 : decode cX10_tracksIn 20 = .ok (.iconst 1, 1) := by decide +kernel
theorem dX10_tracksIn_21 : decode cX10_tracksIn 21 = .ok (.goto 4, 3) := by decide +kernel
theorem dX10_tracksIn_24 : decode cX10_tracksIn 24 = .ok (.iconst 0, 1) := by decide +kernel
theorem dX10_tracksIn_25 : decode cX10_tracksIn 25 = .ok (.iadd, 1) := by decide +kernel
theorem dX10_tracksIn_26 : decode cX10_tracksIn 26 = .ok (.istore_n 2, 1) := by decide +kernel
theorem dX10_tracksIn_27 : decode cX10_tracksIn 27 = .ok (.iinc 3 1, 3) := by decide +kernel
theorem dX10_tracksIn_30 : decode cX10_tracksIn 30 = .ok (.goto (-26), 3) := by decide +kernel
theorem dX10_tracksIn_33 : decode cX10_tracksIn 33 = .ok (.iload_n 2, 1) := by decide +kernel
theorem dX10_tracksIn_34 : decode cX10_tracksIn 34 = .ok (.ireturn, 1) := by decide +kernel
set_option maxRecDepth 100000 in
set_option maxHeartbeats 4000000 in
theorem c_X10_tracksIn (l : Launch) (D : va_G) (cas : Nat → ClassId) (ad : Nat → Nat) (hi : zInj ad) {v1 : Int}  {r : Int} {M M' : Mem} (hf : f_X10_tracksIn v1 M = some (r, M')) : zMi l D cas ad yX10_tracksIn cX10_tracksIn 4 (some .int) 2 44 [.ref (ad 215), .int (zI v1)] M r M' := by
  refine zbody (by decide) (Nat.le_of_ble_eq_true rfl) hi ?_
  intro p e s m args below meth c X hr hk0
  have X : zX p s m args c cX10_tracksIn "ShardTrailsModel" 4 D cas ad (zA ad) := X
  have hB25 : ∀ (g4 : Int → Int → Int → Mem → Option (Int × Mem)) (hg4 : ∀ (v1 v2 v3 : Int) (M : Mem), g4 v1 v2 v3 M = some (r, M') → WW p l e (zrm 2 44) s m args below meth c D cas ad (zA ad) 4 0 0 (MQ below (zQi D cas ad r M') args s 0 0 (zA ad)) 4 [(0, .ref (ad 215)), (1, .int (zI v1)), (2, .int (zI v2)), (3, .int (zI v3))] [] M) (v1 v3 t2 t1 : Int) (M : Mem), f_X10_tracksIn_b25 g4 v1 v3 t2 t1 M = some (r, M') → WW p l e (zrm 2 44) s m args below meth c D cas ad (zA ad) 4 0 0 (MQ below (zQi D cas ad r M') args s 0 0 (zA ad)) 25 [(0, .ref (ad 215)), (1, .int (zI v1)), (3, .int (zI v3))] [.int (zI t2), .int (zI t1)] M := by
    intro g4 hg4 v1 v3 t2 t1 M hf
    unfold f_X10_tracksIn_b25 at hf
    refine R_iadd X dX10_tracksIn_25 ?_
    obtain ⟨x8, ex8, hf⟩ := zlt_some hf
    refine R_istore_nX X (lv' := [(2, .int (zI x8)), (0, .ref (ad 215)), (1, .int (zI v1)), (3, .int (zI v3))]) ex8 dX10_tracksIn_26 rfl (by decide) rfl ?_
    refine R_iinc X (lv' := [(3, .int (zI (v3 + 1))), (2, .int (zI x8)), (0, .ref (ad 215)), (1, .int (zI v1))]) 3 dX10_tracksIn_27 rfl (by decide) rfl ?_
    refine R_goto X 4 dX10_tracksIn_30 (by decide) ?_
    exact R_sub [2, 3, 1, 0] rfl (hg4 v1 x8 (v3 + 1) M hf)
  have hB4 : ∀ (n : Nat) (v1 v2 v3 : Int) (M : Mem), f_X10_tracksIn_b4 n v1 v2 v3 M = some (r, M') → WW p l e (zrm 2 44) s m args below meth c D cas ad (zA ad) 4 0 0 (MQ below (zQi D cas ad r M') args s 0 0 (zA ad)) 4 [(0, .ref (ad 215)), (1, .int (zI v1)), (2, .int (zI v2)), (3, .int (zI v3))] [] M := by
    intro n
    induction n with
    | zero => intro v1 v2 v3 M hf; exact absurd hf (by unfold f_X10_tracksIn_b4; simp)
    | succ n ih =>
      intro v1 v2 v3 M hf
      unfold f_X10_tracksIn_b4 at hf
      refine R_iload_n X 3 dX10_tracksIn_4 rfl rfl ?_
      refine R_bipush X dX10_tracksIn_5 (by decide +kernel) ?_
      obtain ⟨hq1, hf⟩ := zgrd hf
      refine R_icmp_ge X 33 ⟨hq1, (by decide)⟩ dX10_tracksIn_7 (by decide) (fun c7 => ?_) (fun c7 => ?_)
      · have hf := zthen hf c7
        refine R_iload_n X 2 dX10_tracksIn_33 rfl rfl ?_
        exact R_iret X hr hk0 dX10_tracksIn_34 hf
      · have hf := zelse hf c7
        refine R_iload_n X 2 dX10_tracksIn_10 rfl rfl ?_
        refine R_aload_n X 0 dX10_tracksIn_11 rfl rfl ?_
        refine R_iload_n X 1 dX10_tracksIn_12 rfl rfl ?_
        refine R_iload_n X 3 dX10_tracksIn_13 rfl rfl ?_
        obtain ⟨r2, M3, hc4, hf⟩ := zbnd_some hf
        refine R_callVi X (av := [.int (zI v1), .int (zI v3)]) (rest := [.int (zI v2)]) (c_X10_hasTrack l D cas ad hi hc4) zy_X10_hasTrack lc_215 rfl rfl wm_X10_80 rfl rfl ⟨Nat.le_of_ble_eq_true rfl, Nat.le_of_ble_eq_true rfl⟩ ⟨Nat.le_refl _, Nat.le_refl _⟩ (Nat.le_of_ble_eq_true rfl) dX10_tracksIn_14 ?_
        obtain ⟨hq5, hf⟩ := zgrd hf
        refine R_if_eq X 24 hq5 dX10_tracksIn_17 (by decide) (fun c6 => ?_) (fun c6 => ?_)
        · have hf := zthen hf c6
          refine R_iconst X dX10_tracksIn_24 ?_
          exact R_sub [0, 1, 3] rfl (hB25 (f_X10_tracksIn_b4 n) ih v1 v3 0 v2 M3 hf)
        · have hf := zelse hf c6
          refine R_iconst X dX10_tracksIn_20 ?_
          refine R_goto X 25 dX10_tracksIn_21 (by decide) ?_
          exact R_sub [0, 1, 3] rfl (hB25 (f_X10_tracksIn_b4 n) ih v1 v3 1 v2 M3 hf)
  unfold f_X10_tracksIn at hf
  refine (?_ : WW p l e (zrm 2 44) s m args below meth c D cas ad (zA ad) 4 0 0 (MQ below (zQi D cas ad r M') args s 0 0 (zA ad)) 0 [(0, .ref (ad 215)), (1, .int (zI v1))] [] M)
  refine R_iconst X dX10_tracksIn_0 ?_
  refine R_istore_n X (lv' := [(2, .int (zI 0)), (0, .ref (ad 215)), (1, .int (zI v1))]) dX10_tracksIn_1 rfl (by decide) rfl ?_
  refine R_iconst X dX10_tracksIn_2 ?_
  refine R_istore_n X (lv' := [(3, .int (zI 0)), (2, .int (zI 0)), (0, .ref (ad 215)), (1, .int (zI v1))]) dX10_tracksIn_3 rfl (by decide) rfl ?_
  exact R_sub [2, 3, 1, 0] rfl (hB4 100000 v1 0 0 M hf)
theorem dX10_tracks_0 : decode cX10_tracks 0 = .ok (.iconst 0, 1) := by decide +kernel
theorem dX10_tracks_1 : decode cX10_tracks 1 = .ok (.istore_n 1, 1) := by decide +kernel
theorem dX10_tracks_2 : decode cX10_tracks 2 = .ok (.iconst 0, 1) := by decide +kernel
theorem dX10_tracks_3 : decode cX10_tracks 3 = .ok (.istore_n 2, 1) := by decide +kernel
theorem dX10_tracks_4 : decode cX10_tracks 4 = .ok (.iload_n 2, 1) := by decide +kernel
theorem dX10_tracks_5 : decode cX10_tracks 5 = .ok (.aload_n 0, 1) := by decide +kernel
theorem dX10_tracks_6 : decode cX10_tracks 6 = .ok (.getfield 7, 3) := by decide +kernel
theorem dX10_tracks_9 : decode cX10_tracks 9 = .ok (.sipush 863, 3) := by decide +kernel
theorem dX10_tracks_12 : decode cX10_tracks 12 = .ok (.iaload, 1) := by decide +kernel
theorem dX10_tracks_13 : decode cX10_tracks 13 = .ok (.if_icmp .ge 17, 3) := by decide +kernel
theorem dX10_tracks_16 : decode cX10_tracks 16 = .ok (.iload_n 1, 1) := by decide +kernel
theorem dX10_tracks_17 : decode cX10_tracks 17 = .ok (.aload_n 0, 1) := by decide +kernel
theorem dX10_tracks_18 : decode cX10_tracks 18 = .ok (.iload_n 2, 1) := by decide +kernel
theorem dX10_tracks_19 : decode cX10_tracks 19 = .ok (.invokevirtual 83, 3) := by decide +kernel
theorem dX10_tracks_22 : decode cX10_tracks 22 = .ok (.iadd, 1) := by decide +kernel
theorem dX10_tracks_23 : decode cX10_tracks 23 = .ok (.istore_n 1, 1) := by decide +kernel
theorem dX10_tracks_24 : decode cX10_tracks 24 = .ok (.iinc 2 1, 3) := by decide +kernel
theorem dX10_tracks_27 : decode cX10_tracks 27 = .ok (.goto (-23), 3) := by decide +kernel
theorem dX10_tracks_30 : decode cX10_tracks 30 = .ok (.iload_n 1, 1) := by decide +kernel
theorem dX10_tracks_31 : decode cX10_tracks 31 = .ok (.ireturn, 1) := by decide +kernel
set_option maxRecDepth 100000 in
set_option maxHeartbeats 4000000 in
theorem c_X10_tracks (l : Launch) (D : va_G) (cas : Nat → ClassId) (ad : Nat → Nat) (hi : zInj ad)   {r : Int} {M M' : Mem} (hf : f_X10_tracks M = some (r, M')) : zMi l D cas ad yX10_tracks cX10_tracks 3 (some .int) 3 67 [.ref (ad 215)] M r M' := by
  refine zbody (by decide) (Nat.le_of_ble_eq_true rfl) hi ?_
  intro p e s m args below meth c X hr hk0
  have X : zX p s m args c cX10_tracks "ShardTrailsModel" 3 D cas ad (zA ad) := X
  have hB4 : ∀ (n : Nat) (v1 v2 : Int) (M : Mem), f_X10_tracks_b4 n v1 v2 M = some (r, M') → WW p l e (zrm 3 67) s m args below meth c D cas ad (zA ad) 3 0 0 (MQ below (zQi D cas ad r M') args s 0 0 (zA ad)) 4 [(0, .ref (ad 215)), (1, .int (zI v1)), (2, .int (zI v2))] [] M := by
    intro n
    induction n with
    | zero => intro v1 v2 M hf; exact absurd hf (by unfold f_X10_tracks_b4; simp)
    | succ n ih =>
      intro v1 v2 M hf
      unfold f_X10_tracks_b4 at hf
      refine R_iload_n X 2 dX10_tracks_4 rfl rfl ?_
      refine R_aload_n X 0 dX10_tracks_5 rfl rfl ?_
      refine R_getR X (j := 0) 1 216 lc_215 rfl inX10 (by decide) rfl rfl (by decide) rfl rfl wf_X10_7 dX10_tracks_6 ?_
      refine R_sipush X dX10_tracks_9 (by decide +kernel) ?_
      refine R_iald X lc_216 (by decide) dX10_tracks_12 ?_
      obtain ⟨hq1, hf⟩ := zgrd hf
      obtain ⟨hq2, hf⟩ := zgrd hf
      refine R_icmp_ge X 30 ⟨hq1, hq2⟩ dX10_tracks_13 (by decide) (fun c7 => ?_) (fun c7 => ?_)
      · have hf := zthen hf c7
        refine R_iload_n X 1 dX10_tracks_30 rfl rfl ?_
        exact R_iret X hr hk0 dX10_tracks_31 hf
      · have hf := zelse hf c7
        refine R_iload_n X 1 dX10_tracks_16 rfl rfl ?_
        refine R_aload_n X 0 dX10_tracks_17 rfl rfl ?_
        refine R_iload_n X 2 dX10_tracks_18 rfl rfl ?_
        obtain ⟨r3, M4, hc5, hf⟩ := zbnd_some hf
        refine R_callVi X (av := [.int (zI v2)]) (rest := [.int (zI v1)]) (c_X10_tracksIn l D cas ad hi hc5) zy_X10_tracksIn lc_215 rfl rfl wm_X10_83 rfl rfl ⟨Nat.le_of_ble_eq_true rfl, Nat.le_of_ble_eq_true rfl⟩ ⟨Nat.le_refl _, Nat.le_refl _⟩ (Nat.le_of_ble_eq_true rfl) dX10_tracks_19 ?_
        refine R_iadd X dX10_tracks_22 ?_
        obtain ⟨x6, ex6, hf⟩ := zlt_some hf
        refine R_istore_nX X (lv' := [(1, .int (zI x6)), (0, .ref (ad 215)), (2, .int (zI v2))]) ex6 dX10_tracks_23 rfl (by decide) rfl ?_
        refine R_iinc X (lv' := [(2, .int (zI (v2 + 1))), (1, .int (zI x6)), (0, .ref (ad 215))]) 2 dX10_tracks_24 rfl (by decide) rfl ?_
        refine R_goto X 4 dX10_tracks_27 (by decide) ?_
        exact R_sub [2, 1, 0] rfl (ih x6 (v2 + 1) M4 hf)
  unfold f_X10_tracks at hf
  refine (?_ : WW p l e (zrm 3 67) s m args below meth c D cas ad (zA ad) 3 0 0 (MQ below (zQi D cas ad r M') args s 0 0 (zA ad)) 0 [(0, .ref (ad 215))] [] M)
  refine R_iconst X dX10_tracks_0 ?_
  refine R_istore_n X (lv' := [(1, .int (zI 0)), (0, .ref (ad 215))]) dX10_tracks_1 rfl (by decide) rfl ?_
  refine R_iconst X dX10_tracks_2 ?_
  refine R_istore_n X (lv' := [(2, .int (zI 0)), (1, .int (zI 0)), (0, .ref (ad 215))]) dX10_tracks_3 rfl (by decide) rfl ?_
  exact R_sub [2, 1, 0] rfl (hB4 100000 0 0 M hf)
theorem dX10_count_0 : decode cX10_count 0 = .ok (.iload_n 1, 1) := by decide +kernel
theorem dX10_count_1 : decode cX10_count 1 = .ok (.tableswitch 195 0 14 #[75, 84, 89, 103, 112, 117, 126, 135, 140, 149, 158, 167, 176, 185, 190], 75) := by decide +kernel
theorem dX10_count_76 : decode cX10_count 76 = .ok (.aload_n 0, 1) := by decide +kernel
theorem dX10_count_77 : decode cX10_count 77 = .ok (.getfield 7, 3) := by decide +kernel
theorem dX10_count_80 : decode cX10_count 80 = .ok (.sipush 862, 3) := by decide +kernel
theorem dX10_count_83 : decode cX10_count 83 = .ok (.iaload, 1) := by decide +kernel
theorem dX10_count_84 : decode cX10_count 84 = .ok (.ireturn, 1) := by decide +kernel
theorem dX10_count_85 : decode cX10_count 85 = .ok (.aload_n 0, 1) := by decide +kernel
theorem dX10_count_86 : decode cX10_count 86 = .ok (.invokevirtual 67, 3) := by decide +kernel
theorem dX10_count_89 : decode cX10_count 89 = .ok (.ireturn, 1) := by decide +kernel
theorem dX10_count_90 : decode cX10_count 90 = .ok (.aload_n 0, 1) := by decide +kernel
theorem dX10_count_91 : decode cX10_count 91 = .ok (.getfield 7, 3) := by decide +kernel
theorem dX10_count_94 : decode cX10_count 94 = .ok (.sipush 852, 3) := by decide +kernel
theorem dX10_count_97 : decode cX10_count 97 = .ok (.aload_n 0, 1) := by decide +kernel
theorem dX10_count_98 : decode cX10_count 98 = .ok (.invokevirtual 67, 3) := by decide +kernel
theorem dX10_count_101 : decode cX10_count 101 = .ok (.iadd, 1) := by decide +kernel
theorem dX10_count_102 : decode cX10_count 102 = .ok (.iaload, 1) := by decide +kernel
theorem dX10_count_103 : decode cX10_count 103 = .ok (.ireturn, 1) := by decide +kernel
theorem dX10_count_104 : decode cX10_count 104 = .ok (.aload_n 0, 1) := by decide +kernel
theorem dX10_count_105 : decode cX10_count 105 = .ok (.getfield 7, 3) := by decide +kernel
theorem dX10_count_108 : decode cX10_count 108 = .ok (.sipush 863, 3) := by decide +kernel
theorem dX10_count_111 : decode cX10_count 111 = .ok (.iaload, 1) := by decide +kernel
theorem dX10_count_112 : decode cX10_count 112 = .ok (.ireturn, 1) := by decide +kernel
theorem dX10_count_113 : decode cX10_count 113 = .ok (.aload_n 0, 1) := by decide +kernel
theorem dX10_count_114 : decode cX10_count 114 = .ok (.invokevirtual 52, 3) := by decide +kernel
theorem dX10_count_117 : decode cX10_count 117 = .ok (.ireturn, 1) := by decide +kernel
theorem dX10_count_118 : decode cX10_count 118 = .ok (.aload_n 0, 1) := by decide +kernel
theorem dX10_count_119 : decode cX10_count 119 = .ok (.getfield 7, 3) := by decide +kernel
theorem dX10_count_122 : decode cX10_count 122 = .ok (.sipush 864, 3) := by decide +kernel
theorem dX10_count_125 : decode cX10_count 125 = .ok (.iaload, 1) := by decide +kernel
theorem dX10_count_126 : decode cX10_count 126 = .ok (.ireturn, 1) := by decide +kernel
theorem dX10_count_127 : decode cX10_count 127 = .ok (.aload_n 0, 1) := by decide +kernel
theorem dX10_count_128 : decode cX10_count 128 = .ok (.getfield 7, 3) := by decide +kernel
theorem dX10_count_131 : decode cX10_count 131 = .ok (.sipush 865, 3) := by decide +kernel
theorem dX10_count_134 : decode cX10_count 134 = .ok (.iaload, 1) := by decide +kernel
theorem dX10_count_135 : decode cX10_count 135 = .ok (.ireturn, 1) := by decide +kernel
theorem dX10_count_136 : decode cX10_count 136 = .ok (.aload_n 0, 1) := by decide +kernel
theorem dX10_count_137 : decode cX10_count 137 = .ok (.invokevirtual 202, 3) := by decide +kernel
theorem dX10_count_140 : decode cX10_count 140 = .ok (.ireturn, 1) := by decide +kernel
theorem dX10_count_141 : decode cX10_count 141 = .ok (.aload_n 0, 1) := by decide +kernel
theorem dX10_count_142 : decode cX10_count 142 = .ok (.getfield 7, 3) := by decide +kernel
theorem dX10_count_145 : decode cX10_count 145 = .ok (.sipush 866, 3) := by decide +kernel
theorem dX10_count_148 : decode cX10_count 148 = .ok (.iaload, 1) := by decide +kernel
theorem dX10_count_149 : decode cX10_count 149 = .ok (.ireturn, 1) := by decide +kernel
theorem dX10_count_150 : decode cX10_count 150 = .ok (.aload_n 0, 1) := by decide +kernel
theorem dX10_count_151 : decode cX10_count 151 = .ok (.getfield 7, 3) := by decide +kernel
theorem dX10_count_154 : decode cX10_count 154 = .ok (.sipush 867, 3) := by decide +kernel
theorem dX10_count_157 : decode cX10_count 157 = .ok (.iaload, 1) := by decide +kernel
theorem dX10_count_158 : decode cX10_count 158 = .ok (.ireturn, 1) := by decide +kernel
theorem dX10_count_159 : decode cX10_count 159 = .ok (.aload_n 0, 1) := by decide +kernel
theorem dX10_count_160 : decode cX10_count 160 = .ok (.getfield 7, 3) := by decide +kernel
theorem dX10_count_163 : decode cX10_count 163 = .ok (.sipush 868, 3) := by decide +kernel
theorem dX10_count_166 : decode cX10_count 166 = .ok (.iaload, 1) := by decide +kernel
theorem dX10_count_167 : decode cX10_count 167 = .ok (.ireturn, 1) := by decide +kernel
theorem dX10_count_168 : decode cX10_count 168 = .ok (.aload_n 0, 1) := by decide +kernel
theorem dX10_count_169 : decode cX10_count 169 = .ok (.getfield 7, 3) := by decide +kernel
theorem dX10_count_172 : decode cX10_count 172 = .ok (.sipush 869, 3) := by decide +kernel
theorem dX10_count_175 : decode cX10_count 175 = .ok (.iaload, 1) := by decide +kernel
theorem dX10_count_176 : decode cX10_count 176 = .ok (.ireturn, 1) := by decide +kernel
theorem dX10_count_177 : decode cX10_count 177 = .ok (.aload_n 0, 1) := by decide +kernel
theorem dX10_count_178 : decode cX10_count 178 = .ok (.getfield 7, 3) := by decide +kernel
theorem dX10_count_181 : decode cX10_count 181 = .ok (.sipush 870, 3) := by decide +kernel
theorem dX10_count_184 : decode cX10_count 184 = .ok (.iaload, 1) := by decide +kernel
theorem dX10_count_185 : decode cX10_count 185 = .ok (.ireturn, 1) := by decide +kernel
theorem dX10_count_186 : decode cX10_count 186 = .ok (.aload_n 0, 1) := by decide +kernel
theorem dX10_count_187 : decode cX10_count 187 = .ok (.getfield 19, 3) := by decide +kernel
theorem dX10_count_190 : decode cX10_count 190 = .ok (.ireturn, 1) := by decide +kernel
theorem dX10_count_191 : decode cX10_count 191 = .ok (.aload_n 0, 1) := by decide +kernel
theorem dX10_count_192 : decode cX10_count 192 = .ok (.getfield 156, 3) := by decide +kernel
theorem dX10_count_195 : decode cX10_count 195 = .ok (.ireturn, 1) := by decide +kernel
theorem dX10_count_196 : decode cX10_count 196 = .ok (.bipush (-2), 2) := by decide +kernel
theorem dX10_count_198 : decode cX10_count 198 = .ok (.ireturn, 1) := by decide +kernel
set_option maxRecDepth 100000 in
set_option maxHeartbeats 4000000 in
theorem c_X10_count (l : Launch) (D : va_G) (cas : Nat → ClassId) (ad : Nat → Nat) (hi : zInj ad) {v1 : Int}  {r : Int} {M M' : Mem} (hf : f_X10_count v1 M = some (r, M')) : zMi l D cas ad yX10_count cX10_count 2 (some .int) 4 89 [.ref (ad 215), .int (zI v1)] M r M' := by
  refine zbody (by decide) (Nat.le_of_ble_eq_true rfl) hi ?_
  intro p e s m args below meth c X hr hk0
  have X : zX p s m args c cX10_count "ShardTrailsModel" 2 D cas ad (zA ad) := X
  unfold f_X10_count at hf
  refine (?_ : WW p l e (zrm 4 89) s m args below meth c D cas ad (zA ad) 2 0 0 (MQ below (zQi D cas ad r M') args s 0 0 (zA ad)) 0 [(0, .ref (ad 215)), (1, .int (zI v1))] [] M)
  refine R_iload_n X 1 dX10_count_0 rfl rfl ?_
  obtain ⟨hq1, hf⟩ := zgrd hf
  by_cases c2 : v1 = 0
  · have hf := zthen hf c2
    refine R_tableIn X (o := 75) 76 c2 dX10_count_1 (by decide) (by decide) (by decide) (by decide +kernel) (by decide) ?_
    refine R_aload_n X 0 dX10_count_76 rfl rfl ?_
    refine R_getR X (j := 0) 1 216 lc_215 rfl inX10 (by decide) rfl rfl (by decide) rfl rfl wf_X10_7 dX10_count_77 ?_
    refine R_sipush X dX10_count_80 (by decide +kernel) ?_
    refine R_iald X lc_216 (by decide) dX10_count_83 ?_
    exact R_iret X hr hk0 dX10_count_84 hf
  have hf := zelse hf c2
  by_cases c6 : v1 = 1
  · have hf := zthen hf c6
    refine R_tableIn X (o := 84) 85 c6 dX10_count_1 (by decide) (by decide) (by decide) (by decide +kernel) (by decide) ?_
    refine R_aload_n X 0 dX10_count_85 rfl rfl ?_
    obtain ⟨r3, M4, hc5, hf⟩ := zbnd_some hf
    refine R_callVi X (av := []) (rest := []) (c_X10_season l D cas ad hi hc5) zy_X10_season lc_215 rfl rfl wm_X10_67 rfl rfl ⟨Nat.le_of_ble_eq_true rfl, Nat.le_of_ble_eq_true rfl⟩ ⟨Nat.le_refl _, Nat.le_refl _⟩ (Nat.le_of_ble_eq_true rfl) dX10_count_86 ?_
    exact R_iret X hr hk0 dX10_count_89 hf
  have hf := zelse hf c6
  by_cases c11 : v1 = 2
  · have hf := zthen hf c11
    refine R_tableIn X (o := 89) 90 c11 dX10_count_1 (by decide) (by decide) (by decide) (by decide +kernel) (by decide) ?_
    refine R_aload_n X 0 dX10_count_90 rfl rfl ?_
    refine R_getR X (j := 0) 1 216 lc_215 rfl inX10 (by decide) rfl rfl (by decide) rfl rfl wf_X10_7 dX10_count_91 ?_
    refine R_sipush X dX10_count_94 (by decide +kernel) ?_
    refine R_aload_n X 0 dX10_count_97 rfl rfl ?_
    obtain ⟨r7, M8, hc9, hf⟩ := zbnd_some hf
    refine R_callVi X (av := []) (rest := [.int (zI 852), .ref (ad 216)]) (c_X10_season l D cas ad hi hc9) zy_X10_season lc_215 rfl rfl wm_X10_67 rfl rfl ⟨Nat.le_of_ble_eq_true rfl, Nat.le_of_ble_eq_true rfl⟩ ⟨Nat.le_refl _, Nat.le_refl _⟩ (Nat.le_of_ble_eq_true rfl) dX10_count_98 ?_
    refine R_iadd X dX10_count_101 ?_
    obtain ⟨hq10, hf⟩ := zgrd hf
    refine R_iald X lc_216 hq10 dX10_count_102 ?_
    exact R_iret X hr hk0 dX10_count_103 hf
  have hf := zelse hf c11
  by_cases c12 : v1 = 3
  · have hf := zthen hf c12
    refine R_tableIn X (o := 103) 104 c12 dX10_count_1 (by decide) (by decide) (by decide) (by decide +kernel) (by decide) ?_
    refine R_aload_n X 0 dX10_count_104 rfl rfl ?_
    refine R_getR X (j := 0) 1 216 lc_215 rfl inX10 (by decide) rfl rfl (by decide) rfl rfl wf_X10_7 dX10_count_105 ?_
    refine R_sipush X dX10_count_108 (by decide +kernel) ?_
    refine R_iald X lc_216 (by decide) dX10_count_111 ?_
    exact R_iret X hr hk0 dX10_count_112 hf
  have hf := zelse hf c12
  by_cases c16 : v1 = 4
  · have hf := zthen hf c16
    refine R_tableIn X (o := 112) 113 c16 dX10_count_1 (by decide) (by decide) (by decide) (by decide +kernel) (by decide) ?_
    refine R_aload_n X 0 dX10_count_113 rfl rfl ?_
    obtain ⟨r13, M14, hc15, hf⟩ := zbnd_some hf
    refine R_callVi X (av := []) (rest := []) (c_X10_inns l D cas ad hi hc15) zy_X10_inns lc_215 rfl rfl wm_X10_52 rfl rfl ⟨Nat.le_of_ble_eq_true rfl, Nat.le_of_ble_eq_true rfl⟩ ⟨Nat.le_refl _, Nat.le_refl _⟩ (Nat.le_of_ble_eq_true rfl) dX10_count_114 ?_
    exact R_iret X hr hk0 dX10_count_117 hf
  have hf := zelse hf c16
  by_cases c17 : v1 = 5
  · have hf := zthen hf c17
    refine R_tableIn X (o := 117) 118 c17 dX10_count_1 (by decide) (by decide) (by decide) (by decide +kernel) (by decide) ?_
    refine R_aload_n X 0 dX10_count_118 rfl rfl ?_
    refine R_getR X (j := 0) 1 216 lc_215 rfl inX10 (by decide) rfl rfl (by decide) rfl rfl wf_X10_7 dX10_count_119 ?_
    refine R_sipush X dX10_count_122 (by decide +kernel) ?_
    refine R_iald X lc_216 (by decide) dX10_count_125 ?_
    exact R_iret X hr hk0 dX10_count_126 hf
  have hf := zelse hf c17
  by_cases c18 : v1 = 6
  · have hf := zthen hf c18
    refine R_tableIn X (o := 126) 127 c18 dX10_count_1 (by decide) (by decide) (by decide) (by decide +kernel) (by decide) ?_
    refine R_aload_n X 0 dX10_count_127 rfl rfl ?_
    refine R_getR X (j := 0) 1 216 lc_215 rfl inX10 (by decide) rfl rfl (by decide) rfl rfl wf_X10_7 dX10_count_128 ?_
    refine R_sipush X dX10_count_131 (by decide +kernel) ?_
    refine R_iald X lc_216 (by decide) dX10_count_134 ?_
    exact R_iret X hr hk0 dX10_count_135 hf
  have hf := zelse hf c18
  by_cases c22 : v1 = 7
  · have hf := zthen hf c22
    refine R_tableIn X (o := 135) 136 c22 dX10_count_1 (by decide) (by decide) (by decide) (by decide +kernel) (by decide) ?_
    refine R_aload_n X 0 dX10_count_136 rfl rfl ?_
    obtain ⟨r19, M20, hc21, hf⟩ := zbnd_some hf
    refine R_callVi X (av := []) (rest := []) (c_X10_tracks l D cas ad hi hc21) zy_X10_tracks lc_215 rfl rfl wm_X10_202 rfl rfl ⟨Nat.le_of_ble_eq_true rfl, Nat.le_of_ble_eq_true rfl⟩ ⟨Nat.le_refl _, Nat.le_refl _⟩ (Nat.le_of_ble_eq_true rfl) dX10_count_137 ?_
    exact R_iret X hr hk0 dX10_count_140 hf
  have hf := zelse hf c22
  by_cases c23 : v1 = 8
  · have hf := zthen hf c23
    refine R_tableIn X (o := 140) 141 c23 dX10_count_1 (by decide) (by decide) (by decide) (by decide +kernel) (by decide) ?_
    refine R_aload_n X 0 dX10_count_141 rfl rfl ?_
    refine R_getR X (j := 0) 1 216 lc_215 rfl inX10 (by decide) rfl rfl (by decide) rfl rfl wf_X10_7 dX10_count_142 ?_
    refine R_sipush X dX10_count_145 (by decide +kernel) ?_
    refine R_iald X lc_216 (by decide) dX10_count_148 ?_
    exact R_iret X hr hk0 dX10_count_149 hf
  have hf := zelse hf c23
  by_cases c24 : v1 = 9
  · have hf := zthen hf c24
    refine R_tableIn X (o := 149) 150 c24 dX10_count_1 (by decide) (by decide) (by decide) (by decide +kernel) (by decide) ?_
    refine R_aload_n X 0 dX10_count_150 rfl rfl ?_
    refine R_getR X (j := 0) 1 216 lc_215 rfl inX10 (by decide) rfl rfl (by decide) rfl rfl wf_X10_7 dX10_count_151 ?_
    refine R_sipush X dX10_count_154 (by decide +kernel) ?_
    refine R_iald X lc_216 (by decide) dX10_count_157 ?_
    exact R_iret X hr hk0 dX10_count_158 hf
  have hf := zelse hf c24
  by_cases c25 : v1 = 10
  · have hf := zthen hf c25
    refine R_tableIn X (o := 158) 159 c25 dX10_count_1 (by decide) (by decide) (by decide) (by decide +kernel) (by decide) ?_
    refine R_aload_n X 0 dX10_count_159 rfl rfl ?_
    refine R_getR X (j := 0) 1 216 lc_215 rfl inX10 (by decide) rfl rfl (by decide) rfl rfl wf_X10_7 dX10_count_160 ?_
    refine R_sipush X dX10_count_163 (by decide +kernel) ?_
    refine R_iald X lc_216 (by decide) dX10_count_166 ?_
    exact R_iret X hr hk0 dX10_count_167 hf
  have hf := zelse hf c25
  by_cases c26 : v1 = 11
  · have hf := zthen hf c26
    refine R_tableIn X (o := 167) 168 c26 dX10_count_1 (by decide) (by decide) (by decide) (by decide +kernel) (by decide) ?_
    refine R_aload_n X 0 dX10_count_168 rfl rfl ?_
    refine R_getR X (j := 0) 1 216 lc_215 rfl inX10 (by decide) rfl rfl (by decide) rfl rfl wf_X10_7 dX10_count_169 ?_
    refine R_sipush X dX10_count_172 (by decide +kernel) ?_
    refine R_iald X lc_216 (by decide) dX10_count_175 ?_
    exact R_iret X hr hk0 dX10_count_176 hf
  have hf := zelse hf c26
  by_cases c27 : v1 = 12
  · have hf := zthen hf c27
    refine R_tableIn X (o := 176) 177 c27 dX10_count_1 (by decide) (by decide) (by decide) (by decide +kernel) (by decide) ?_
    refine R_aload_n X 0 dX10_count_177 rfl rfl ?_
    refine R_getR X (j := 0) 1 216 lc_215 rfl inX10 (by decide) rfl rfl (by decide) rfl rfl wf_X10_7 dX10_count_178 ?_
    refine R_sipush X dX10_count_181 (by decide +kernel) ?_
    refine R_iald X lc_216 (by decide) dX10_count_184 ?_
    exact R_iret X hr hk0 dX10_count_185 hf
  have hf := zelse hf c27
  by_cases c28 : v1 = 13
  · have hf := zthen hf c28
    refine R_tableIn X (o := 185) 186 c28 dX10_count_1 (by decide) (by decide) (by decide) (by decide +kernel) (by decide) ?_
    refine R_aload_n X 0 dX10_count_186 rfl rfl ?_
    refine R_getI X (j := 1) lc_215 rfl inX10 (by decide) rfl rfl rfl wf_X10_19 dX10_count_187 ?_
    exact R_iret X hr hk0 dX10_count_190 hf
  have hf := zelse hf c28
  by_cases c29 : v1 = 14
  · have hf := zthen hf c29
    refine R_tableIn X (o := 190) 191 c29 dX10_count_1 (by decide) (by decide) (by decide) (by decide +kernel) (by decide) ?_
    refine R_aload_n X 0 dX10_count_191 rfl rfl ?_
    refine R_getI X (j := 4) lc_215 rfl inX10 (by decide) rfl rfl rfl wf_X10_156 dX10_count_192 ?_
    exact R_iret X hr hk0 dX10_count_195 hf
  have hf := zelse hf c29
  refine R_tableOut X 196 hq1 dX10_count_1 (by omega) (by decide) ?_
  refine R_bipush X dX10_count_196 (by decide +kernel) ?_
  exact R_iret X hr hk0 dX10_count_198 hf
theorem dX10_cutIn_0 : decode cX10_cutIn 0 = .ok (.aload_n 0, 1) := by decide +kernel
theorem dX10_cutIn_1 : decode cX10_cutIn 1 = .ok (.iload_n 1, 1) := by decide +kernel
theorem dX10_cutIn_2 : decode cX10_cutIn 2 = .ok (.invokevirtual 38, 3) := by decide +kernel
theorem dX10_cutIn_5 : decode cX10_cutIn 5 = .ok (.ifCond .eq 7, 3) := by decide +kernel
theorem dX10_cutIn_8 : decode cX10_cutIn 8 = .ok (.iconst 0, 1) := by decide +kernel
theorem dX10_cutIn_9 : decode cX10_cutIn 9 = .ok (.goto 8, 3) := by decide +kernel
theorem dX10_cutIn_12 : decode cX10_cutIn 12 = .ok (.aload_n 0, 1) := by decide +kernel
theorem dX10_cutIn_13 : decode cX10_cutIn 13 = .ok (.iload_n 1, 1) := by decide +kernel
theorem dX10_cutIn_14 : decode cX10_cutIn 14 = .ok (.invokevirtual 83, 3) := by decide +kernel
theorem dX10_cutIn_17 : decode cX10_cutIn 17 = .ok (.istore_n 2, 1) := by decide +kernel
theorem dX10_cutIn_18 : decode cX10_cutIn 18 = .ok (.iconst 0, 1) := by decide +kernel
theorem dX10_cutIn_19 : decode cX10_cutIn 19 = .ok (.istore_n 3, 1) := by decide +kernel
theorem dX10_cutIn_20 : decode cX10_cutIn 20 = .ok (.iload_n 3, 1) := by decide +kernel
theorem dX10_cutIn_21 : decode cX10_cutIn 21 = .ok (.bipush 16, 2) := by decide +kernel
theorem dX10_cutIn_23 : decode cX10_cutIn 23 = .ok (.if_icmp .ge 27, 3) := by decide +kernel
theorem dX10_cutIn_26 : decode cX10_cutIn 26 = .ok (.iload_n 2, 1) := by decide +kernel
theorem dX10_cutIn_27 : decode cX10_cutIn 27 = .ok (.ifCond .le 23, 3) := by decide +kernel
theorem dX10_cutIn_30 : decode cX10_cutIn 30 = .ok (.aload_n 0, 1) := by decide +kernel
theorem dX10_cutIn_31 : decode cX10_cutIn 31 = .ok (.getfield 7, 3) := by decide +kernel
theorem dX10_cutIn_34 : decode cX10_cutIn 34 = .ok (.sipush 160, 3) := by decide +kernel
theorem dX10_cutIn_37 : decode cX10_cutIn 37 = .ok (.iload_n 1, 1) := by decide +kernel
theorem dX10_cutIn_38 : decode cX10_cutIn 38 = .ok (.iload_n 3, 1) := by decide +kernel
theorem dX10_cutIn_39 : decode cX10_cutIn 39 = .ok (.invokestatic 70, 3) := by decide +kernel
theorem dX10_cutIn_42 : decode cX10_cutIn 42 = .ok (.iconst 0, 1) := by decide +kernel
theorem dX10_cutIn_43 : decode cX10_cutIn 43 = .ok (.iastore, 1) := by decide +kernel
theorem dX10_cutIn_44 : decode cX10_cutIn 44 = .ok (.iinc 3 1, 3) := by decide +kernel
theorem dX10_cutIn_47 : decode cX10_cutIn 47 = .ok (.goto (-27), 3) := by decide +kernel
theorem dX10_cutIn_50 : decode cX10_cutIn 50 = .ok (.aload_n 0, 1) := by decide +kernel
theorem dX10_cutIn_51 : decode cX10_cutIn 51 = .ok (.getfield 7, 3) := by decide +kernel
theorem dX10_cutIn_54 : decode cX10_cutIn 54 = .ok (.sipush 867, 3) := by decide +kernel
theorem dX10_cutIn_57 : decode cX10_cutIn 57 = .ok (.dup2, 1) := by decide +kernel
theorem dX10_cutIn_58 : decode cX10_cutIn 58 = .ok (.iaload, 1) := by decide +kernel
theorem dX10_cutIn_59 : decode cX10_cutIn 59 = .ok (.iload_n 2, 1) := by decide +kernel
theorem dX10_cutIn_60 : decode cX10_cutIn 60 = .ok (.iadd, 1) := by decide +kernel
theorem dX10_cutIn_61 : decode cX10_cutIn 61 = .ok (.iastore, 1) := by decide +kernel
theorem dX10_cutIn_62 : decode cX10_cutIn 62 = .ok (.iload_n 2, 1) := by decide +kernel
theorem dX10_cutIn_63 : decode cX10_cutIn 63 = .ok (.ireturn, 1) := by decide +kernel
set_option maxRecDepth 100000 in
set_option maxHeartbeats 4000000 in
theorem c_X10_cutIn (l : Launch) (D : va_G) (cas : Nat → ClassId) (ad : Nat → Nat) (hi : zInj ad) {v1 : Int}  {r : Int} {M M' : Mem} (hf : f_X10_cutIn v1 M = some (r, M')) : zMi l D cas ad yX10_cutIn cX10_cutIn 4 (some .int) 3 67 [.ref (ad 215), .int (zI v1)] M r M' := by
  refine zbody (by decide) (Nat.le_of_ble_eq_true rfl) hi ?_
  intro p e s m args below meth c X hr hk0
  have X : zX p s m args c cX10_cutIn "ShardTrailsModel" 4 D cas ad (zA ad) := X
  have hB50 : ∀ (v2 : Int) (M : Mem), f_X10_cutIn_b50 v2 M = some (r, M') → WW p l e (zrm 3 67) s m args below meth c D cas ad (zA ad) 4 0 0 (MQ below (zQi D cas ad r M') args s 0 0 (zA ad)) 50 [(0, .ref (ad 215)), (2, .int (zI v2))] [] M := by
    intro v2 M hf
    unfold f_X10_cutIn_b50 at hf
    refine R_aload_n X 0 dX10_cutIn_50 rfl rfl ?_
    refine R_getR X (j := 0) 1 216 lc_215 rfl inX10 (by decide) rfl rfl (by decide) rfl rfl wf_X10_7 dX10_cutIn_51 ?_
    refine R_sipush X dX10_cutIn_54 (by decide +kernel) ?_
    refine R_dup2 X dX10_cutIn_57 rfl rfl ?_
    refine R_iald X lc_216 (by decide) dX10_cutIn_58 ?_
    refine R_iload_n X 1 dX10_cutIn_59 rfl rfl ?_
    refine R_iadd X dX10_cutIn_60 ?_
    obtain ⟨M18, eM18, hf⟩ := zlt_some hf
    refine R_iast X lc_216 (by decide) dX10_cutIn_61 ?_
    refine R_mem eM18 ?_
    refine R_iload_n X 1 dX10_cutIn_62 rfl rfl ?_
    exact R_iret X hr hk0 dX10_cutIn_63 hf
  have hB20 : ∀ (n : Nat) (v1 v2 v3 : Int) (M : Mem), f_X10_cutIn_b20 n v1 v2 v3 M = some (r, M') → WW p l e (zrm 3 67) s m args below meth c D cas ad (zA ad) 4 0 0 (MQ below (zQi D cas ad r M') args s 0 0 (zA ad)) 20 [(0, .ref (ad 215)), (1, .int (zI v1)), (2, .int (zI v2)), (3, .int (zI v3))] [] M := by
    intro n
    induction n with
    | zero => intro v1 v2 v3 M hf; exact absurd hf (by unfold f_X10_cutIn_b20; simp)
    | succ n ih =>
      intro v1 v2 v3 M hf
      unfold f_X10_cutIn_b20 at hf
      refine R_iload_n X 3 dX10_cutIn_20 rfl rfl ?_
      refine R_bipush X dX10_cutIn_21 (by decide +kernel) ?_
      obtain ⟨hq9, hf⟩ := zgrd hf
      refine R_icmp_ge X 50 ⟨hq9, (by decide)⟩ dX10_cutIn_23 (by decide) (fun c17 => ?_) (fun c17 => ?_)
      · have hf := zthen hf c17
        exact R_sub [0, 2] rfl (hB50 v2 M hf)
      · have hf := zelse hf c17
        refine R_iload_n X 2 dX10_cutIn_26 rfl rfl ?_
        obtain ⟨hq10, hf⟩ := zgrd hf
        refine R_if_le X 50 hq10 dX10_cutIn_27 (by decide) (fun c16 => ?_) (fun c16 => ?_)
        · have hf := zthen hf c16
          exact R_sub [0, 2] rfl (hB50 v2 M hf)
        · have hf := zelse hf c16
          refine R_aload_n X 0 dX10_cutIn_30 rfl rfl ?_
          refine R_getR X (j := 0) 1 216 lc_215 rfl inX10 (by decide) rfl rfl (by decide) rfl rfl wf_X10_7 dX10_cutIn_31 ?_
          refine R_sipush X dX10_cutIn_34 (by decide +kernel) ?_
          refine R_iload_n X 1 dX10_cutIn_37 rfl rfl ?_
          refine R_iload_n X 3 dX10_cutIn_38 rfl rfl ?_
          obtain ⟨r11, M12, hc13, hf⟩ := zbnd_some hf
          refine R_callSi X (av := [.int (zI 160), .int (zI v1), .int (zI v3)]) (rest := [.ref (ad 216)]) (c_X10_at l D cas ad hi hc13) zy_X10_at wm_X10_70 rfl rfl ⟨Nat.le_of_ble_eq_true rfl, Nat.le_of_ble_eq_true rfl⟩ ⟨Nat.le_refl _, Nat.le_refl _⟩ (Nat.le_of_ble_eq_true rfl) dX10_cutIn_39 ?_
          refine R_iconst X dX10_cutIn_42 ?_
          obtain ⟨hq14, hf⟩ := zgrd hf
          obtain ⟨M15, eM15, hf⟩ := zlt_some hf
          refine R_iast X lc_216 hq14 dX10_cutIn_43 ?_
          refine R_mem eM15 ?_
          refine R_iinc X (lv' := [(3, .int (zI (v3 + 1))), (0, .ref (ad 215)), (1, .int (zI v1)), (2, .int (zI v2))]) 3 dX10_cutIn_44 rfl (by decide) rfl ?_
          refine R_goto X 20 dX10_cutIn_47 (by decide) ?_
          exact R_sub [1, 2, 3, 0] rfl (ih v1 v2 (v3 + 1) M15 hf)
  have hB17 : ∀ (v1 t1 : Int) (M : Mem), f_X10_cutIn_b17 v1 t1 M = some (r, M') → WW p l e (zrm 3 67) s m args below meth c D cas ad (zA ad) 4 0 0 (MQ below (zQi D cas ad r M') args s 0 0 (zA ad)) 17 [(0, .ref (ad 215)), (1, .int (zI v1))] [.int (zI t1)] M := by
    intro v1 t1 M hf
    unfold f_X10_cutIn_b17 at hf
    refine R_istore_n X (lv' := [(2, .int (zI t1)), (0, .ref (ad 215)), (1, .int (zI v1))]) dX10_cutIn_17 rfl (by decide) rfl ?_
    refine R_iconst X dX10_cutIn_18 ?_
    refine R_istore_n X (lv' := [(3, .int (zI 0)), (2, .int (zI t1)), (0, .ref (ad 215)), (1, .int (zI v1))]) dX10_cutIn_19 rfl (by decide) rfl ?_
    exact R_sub [2, 3, 1, 0] rfl (hB20 100000 v1 t1 0 M hf)
  unfold f_X10_cutIn at hf
  refine (?_ : WW p l e (zrm 3 67) s m args below meth c D cas ad (zA ad) 4 0 0 (MQ below (zQi D cas ad r M') args s 0 0 (zA ad)) 0 [(0, .ref (ad 215)), (1, .int (zI v1))] [] M)
  refine R_aload_n X 0 dX10_cutIn_0 rfl rfl ?_
  refine R_iload_n X 1 dX10_cutIn_1 rfl rfl ?_
  obtain ⟨r1, M2, hc3, hf⟩ := zbnd_some hf
  refine R_callVi X (av := [.int (zI v1)]) (rest := []) (c_X10_hasInn l D cas ad hi hc3) zy_X10_hasInn lc_215 rfl rfl wm_X10_38 rfl rfl ⟨Nat.le_of_ble_eq_true rfl, Nat.le_of_ble_eq_true rfl⟩ ⟨Nat.le_refl _, Nat.le_refl _⟩ (Nat.le_of_ble_eq_true rfl) dX10_cutIn_2 ?_
  obtain ⟨hq4, hf⟩ := zgrd hf
  refine R_if_eq X 12 hq4 dX10_cutIn_5 (by decide) (fun c8 => ?_) (fun c8 => ?_)
  · have hf := zthen hf c8
    refine R_aload_n X 0 dX10_cutIn_12 rfl rfl ?_
    refine R_iload_n X 1 dX10_cutIn_13 rfl rfl ?_
    obtain ⟨r5, M6, hc7, hf⟩ := zbnd_some hf
    refine R_callVi X (av := [.int (zI v1)]) (rest := []) (c_X10_tracksIn l D cas ad hi hc7) zy_X10_tracksIn lc_215 rfl rfl wm_X10_83 rfl rfl ⟨Nat.le_of_ble_eq_true rfl, Nat.le_of_ble_eq_true rfl⟩ ⟨Nat.le_refl _, Nat.le_refl _⟩ (Nat.le_of_ble_eq_true rfl) dX10_cutIn_14 ?_
    exact R_sub [0, 1] rfl (hB17 v1 r5 M6 hf)
  · have hf := zelse hf c8
    refine R_iconst X dX10_cutIn_8 ?_
    refine R_goto X 17 dX10_cutIn_9 (by decide) ?_
    exact R_sub [0, 1] rfl (hB17 v1 0 M2 hf)
theorem dX10_cut_0 : decode cX10_cut 0 = .ok (.iload_n 1, 1) := by decide +kernel
theorem dX10_cut_1 : decode cX10_cut 1 = .ok (.iconst 0, 1) := by decide +kernel
theorem dX10_cut_2 : decode cX10_cut 2 = .ok (.aload_n 0, 1) := by decide +kernel
theorem dX10_cut_3 : decode cX10_cut 3 = .ok (.getfield 7, 3) := by decide +kernel
theorem dX10_cut_6 : decode cX10_cut 6 = .ok (.sipush 864, 3) := by decide +kernel
theorem dX10_cut_9 : decode cX10_cut 9 = .ok (.iaload, 1) := by decide +kernel
theorem dX10_cut_10 : decode cX10_cut 10 = .ok (.iconst 1, 1) := by decide +kernel
theorem dX10_cut_11 : decode cX10_cut 11 = .ok (.isub, 1) := by decide +kernel
theorem dX10_cut_12 : decode cX10_cut 12 = .ok (.invokestatic 34, 3) := by decide +kernel
theorem dX10_cut_15 : decode cX10_cut 15 = .ok (.ifCond .ne 5, 3) := by decide +kernel
theorem dX10_cut_18 : decode cX10_cut 18 = .ok (.iconst (-1), 1) := by decide +kernel
theorem dX10_cut_19 : decode cX10_cut 19 = .ok (.ireturn, 1) := by decide +kernel
theorem dX10_cut_20 : decode cX10_cut 20 = .ok (.aload_n 0, 1) := by decide +kernel
theorem dX10_cut_21 : decode cX10_cut 21 = .ok (.getfield 7, 3) := by decide +kernel
theorem dX10_cut_24 : decode cX10_cut 24 = .ok (.sipush 720, 3) := by decide +kernel
theorem dX10_cut_27 : decode cX10_cut 27 = .ok (.iconst 2, 1) := by decide +kernel
theorem dX10_cut_28 : decode cX10_cut 28 = .ok (.iload_n 1, 1) := by decide +kernel
theorem dX10_cut_29 : decode cX10_cut 29 = .ok (.imul, 1) := by decide +kernel
theorem dX10_cut_30 : decode cX10_cut 30 = .ok (.iadd, 1) := by decide +kernel
theorem dX10_cut_31 : decode cX10_cut 31 = .ok (.iaload, 1) := by decide +kernel
theorem dX10_cut_32 : decode cX10_cut 32 = .ok (.istore_n 2, 1) := by decide +kernel
theorem dX10_cut_33 : decode cX10_cut 33 = .ok (.aload_n 0, 1) := by decide +kernel
theorem dX10_cut_34 : decode cX10_cut 34 = .ok (.iload_n 2, 1) := by decide +kernel
theorem dX10_cut_35 : decode cX10_cut 35 = .ok (.invokevirtual 38, 3) := by decide +kernel
theorem dX10_cut_38 : decode cX10_cut 38 = .ok (.ifCond .ne 11, 3) := by decide +kernel
theorem dX10_cut_41 : decode cX10_cut 41 = .ok (.aload_n 0, 1) := by decide +kernel
theorem dX10_cut_42 : decode cX10_cut 42 = .ok (.iload_n 2, 1) := by decide +kernel
theorem dX10_cut_43 : decode cX10_cut 43 = .ok (.invokevirtual 83, 3) := by decide +kernel
theorem dX10_cut_46 : decode cX10_cut 46 = .ok (.ifCond .ne 6, 3) := by decide +kernel
theorem dX10_cut_49 : decode cX10_cut 49 = .ok (.bipush (-5), 2) := by decide +kernel
theorem dX10_cut_51 : decode cX10_cut 51 = .ok (.ireturn, 1) := by decide +kernel
theorem dX10_cut_52 : decode cX10_cut 52 = .ok (.aload_n 0, 1) := by decide +kernel
theorem dX10_cut_53 : decode cX10_cut 53 = .ok (.invokevirtual 31, 3) := by decide +kernel
theorem dX10_cut_56 : decode cX10_cut 56 = .ok (.aload_n 0, 1) := by decide +kernel
theorem dX10_cut_57 : decode cX10_cut 57 = .ok (.iload_n 2, 1) := by decide +kernel
theorem dX10_cut_58 : decode cX10_cut 58 = .ok (.invokevirtual 86, 3) := by decide +kernel
theorem dX10_cut_61 : decode cX10_cut 61 = .ok (.ireturn, 1) := by decide +kernel
set_option maxRecDepth 100000 in
set_option maxHeartbeats 4000000 in
theorem c_X10_cut (l : Launch) (D : va_G) (cas : Nat → ClassId) (ad : Nat → Nat) (hi : zInj ad) {v1 : Int}  {r : Int} {M M' : Mem} (hf : f_X10_cut v1 M = some (r, M')) : zMi l D cas ad yX10_cut cX10_cut 3 (some .int) 4 90 [.ref (ad 215), .int (zI v1)] M r M' := by
  refine zbody (by decide) (Nat.le_of_ble_eq_true rfl) hi ?_
  intro p e s m args below meth c X hr hk0
  have X : zX p s m args c cX10_cut "ShardTrailsModel" 3 D cas ad (zA ad) := X
  have hB49 : ∀ (M : Mem), f_X10_cut_b49 M = some (r, M') → WW p l e (zrm 4 90) s m args below meth c D cas ad (zA ad) 3 0 0 (MQ below (zQi D cas ad r M') args s 0 0 (zA ad)) 49 [] [] M := by
    intro M hf
    unfold f_X10_cut_b49 at hf
    refine R_bipush X dX10_cut_49 (by decide +kernel) ?_
    exact R_iret X hr hk0 dX10_cut_51 hf
  unfold f_X10_cut at hf
  refine (?_ : WW p l e (zrm 4 90) s m args below meth c D cas ad (zA ad) 3 0 0 (MQ below (zQi D cas ad r M') args s 0 0 (zA ad)) 0 [(0, .ref (ad 215)), (1, .int (zI v1))] [] M)
  refine R_iload_n X 1 dX10_cut_0 rfl rfl ?_
  refine R_iconst X dX10_cut_1 ?_
  refine R_aload_n X 0 dX10_cut_2 rfl rfl ?_
  refine R_getR X (j := 0) 1 216 lc_215 rfl inX10 (by decide) rfl rfl (by decide) rfl rfl wf_X10_7 dX10_cut_3 ?_
  refine R_sipush X dX10_cut_6 (by decide +kernel) ?_
  refine R_iald X lc_216 (by decide) dX10_cut_9 ?_
  refine R_iconst X dX10_cut_10 ?_
  refine R_isub X dX10_cut_11 ?_
  obtain ⟨r1, M2, hc3, hf⟩ := zbnd_some hf
  refine R_callSi X (av := [.int (zI v1), .int (zI 0), .int (zI ((M 216 864) - 1))]) (rest := []) (c_X10_in l D cas ad hi hc3) zy_X10_in wm_X10_34 rfl rfl ⟨Nat.le_of_ble_eq_true rfl, Nat.le_of_ble_eq_true rfl⟩ ⟨Nat.le_refl _, Nat.le_refl _⟩ (Nat.le_of_ble_eq_true rfl) dX10_cut_12 ?_
  obtain ⟨hq4, hf⟩ := zgrd hf
  refine R_if_ne X 20 hq4 dX10_cut_15 (by decide) (fun c23 => ?_) (fun c23 => ?_)
  · have hf := zelse hf c23
    refine R_aload_n X 0 dX10_cut_20 rfl rfl ?_
    refine R_getR X (j := 0) 1 216 lc_215 rfl inX10 (by decide) rfl rfl (by decide) rfl rfl wf_X10_7 dX10_cut_21 ?_
    refine R_sipush X dX10_cut_24 (by decide +kernel) ?_
    refine R_iconst X dX10_cut_27 ?_
    refine R_iload_n X 1 dX10_cut_28 rfl rfl ?_
    refine R_imul X dX10_cut_29 ?_
    refine R_iadd X dX10_cut_30 ?_
    obtain ⟨hq5, hf⟩ := zgrd hf
    refine R_iald X lc_216 hq5 dX10_cut_31 ?_
    obtain ⟨x6, ex6, hf⟩ := zlt_some hf
    refine R_istore_nX X (lv' := [(2, .int (zI x6)), (0, .ref (ad 215)), (1, .int (zI v1))]) ex6 dX10_cut_32 rfl (by decide) rfl ?_
    refine R_aload_n X 1 dX10_cut_33 rfl rfl ?_
    refine R_iload_n X 0 dX10_cut_34 rfl rfl ?_
    obtain ⟨r7, M8, hc9, hf⟩ := zbnd_some hf
    refine R_callVi X (av := [.int (zI x6)]) (rest := []) (c_X10_hasInn l D cas ad hi hc9) zy_X10_hasInn lc_215 rfl rfl wm_X10_38 rfl rfl ⟨Nat.le_of_ble_eq_true rfl, Nat.le_of_ble_eq_true rfl⟩ ⟨Nat.le_refl _, Nat.le_refl _⟩ (Nat.le_of_ble_eq_true rfl) dX10_cut_35 ?_
    obtain ⟨hq10, hf⟩ := zgrd hf
    refine R_if_ne X 49 hq10 dX10_cut_38 (by decide) (fun c22 => ?_) (fun c22 => ?_)
    · have hf := zelse hf c22
      exact R_sub [] rfl (hB49 M8 hf)
    · have hf := zthen hf c22
      refine R_aload_n X 1 dX10_cut_41 rfl rfl ?_
      refine R_iload_n X 0 dX10_cut_42 rfl rfl ?_
      obtain ⟨r11, M12, hc13, hf⟩ := zbnd_some hf
      refine R_callVi X (av := [.int (zI x6)]) (rest := []) (c_X10_tracksIn l D cas ad hi hc13) zy_X10_tracksIn lc_215 rfl rfl wm_X10_83 rfl rfl ⟨Nat.le_of_ble_eq_true rfl, Nat.le_of_ble_eq_true rfl⟩ ⟨Nat.le_refl _, Nat.le_refl _⟩ (Nat.le_of_ble_eq_true rfl) dX10_cut_43 ?_
      obtain ⟨hq14, hf⟩ := zgrd hf
      refine R_if_ne X 52 hq14 dX10_cut_46 (by decide) (fun c21 => ?_) (fun c21 => ?_)
      · have hf := zelse hf c21
        refine R_aload_n X 1 dX10_cut_52 rfl rfl ?_
        obtain ⟨r15, M16, hc17, hf⟩ := zbnd_some hf
        refine R_callVv X (av := []) (rest := []) (c_X10_record l D cas ad hi hc17) zy_X10_record lc_215 rfl rfl wm_X10_31 rfl rfl ⟨Nat.le_of_ble_eq_true rfl, Nat.le_of_ble_eq_true rfl⟩ ⟨Nat.le_refl _, Nat.le_refl _⟩ (Nat.le_of_ble_eq_true rfl) dX10_cut_53 ?_
        refine R_aload_n X 1 dX10_cut_56 rfl rfl ?_
        refine R_iload_n X 0 dX10_cut_57 rfl rfl ?_
        obtain ⟨r18, M19, hc20, hf⟩ := zbnd_some hf
        refine R_callVi X (av := [.int (zI x6)]) (rest := []) (c_X10_cutIn l D cas ad hi hc20) zy_X10_cutIn lc_215 rfl rfl wm_X10_86 rfl rfl ⟨Nat.le_of_ble_eq_true rfl, Nat.le_of_ble_eq_true rfl⟩ ⟨Nat.le_refl _, Nat.le_refl _⟩ (Nat.le_of_ble_eq_true rfl) dX10_cut_58 ?_
        exact R_iret X hr hk0 dX10_cut_61 hf
      · have hf := zthen hf c21
        exact R_sub [] rfl (hB49 M12 hf)
  · have hf := zthen hf c23
    refine R_iconst X dX10_cut_18 ?_
    exact R_iret X hr hk0 dX10_cut_19 hf
theorem dX10_latitudeOf_0 : decode cX10_latitudeOf 0 = .ok (.aload_n 0, 1) := by decide +kernel
theorem dX10_latitudeOf_1 : decode cX10_latitudeOf 1 = .ok (.getfield 7, 3) := by decide +kernel
theorem dX10_latitudeOf_4 : decode cX10_latitudeOf 4 = .ok (.iconst 0, 1) := by decide +kernel
theorem dX10_latitudeOf_5 : decode cX10_latitudeOf 5 = .ok (.iconst 4, 1) := by decide +kernel
theorem dX10_latitudeOf_6 : decode cX10_latitudeOf 6 = .ok (.iload_n 1, 1) := by decide +kernel
theorem dX10_latitudeOf_7 : decode cX10_latitudeOf 7 = .ok (.imul, 1) := by decide +kernel
theorem dX10_latitudeOf_8 : decode cX10_latitudeOf 8 = .ok (.iadd, 1) := by decide +kernel
theorem dX10_latitudeOf_9 : decode cX10_latitudeOf 9 = .ok (.iaload, 1) := by decide +kernel
theorem dX10_latitudeOf_10 : decode cX10_latitudeOf 10 = .ok (.ireturn, 1) := by decide +kernel
set_option maxRecDepth 100000 in
set_option maxHeartbeats 4000000 in
theorem c_X10_latitudeOf (l : Launch) (D : va_G) (cas : Nat → ClassId) (ad : Nat → Nat) (hi : zInj ad) {v1 : Int}  {r : Int} {M M' : Mem} (hf : f_X10_latitudeOf v1 M = some (r, M')) : zMi l D cas ad yX10_latitudeOf cX10_latitudeOf 2 (some .int) 0 0 [.ref (ad 215), .int (zI v1)] M r M' := by
  refine zbody (by decide) (Nat.le_of_ble_eq_true rfl) hi ?_
  intro p e s m args below meth c X hr hk0
  have X : zX p s m args c cX10_latitudeOf "ShardTrailsModel" 2 D cas ad (zA ad) := X
  unfold f_X10_latitudeOf at hf
  refine (?_ : WW p l e (zrm 0 0) s m args below meth c D cas ad (zA ad) 2 0 0 (MQ below (zQi D cas ad r M') args s 0 0 (zA ad)) 0 [(0, .ref (ad 215)), (1, .int (zI v1))] [] M)
  refine R_aload_n X 0 dX10_latitudeOf_0 rfl rfl ?_
  refine R_getR X (j := 0) 1 216 lc_215 rfl inX10 (by decide) rfl rfl (by decide) rfl rfl wf_X10_7 dX10_latitudeOf_1 ?_
  refine R_iconst X dX10_latitudeOf_4 ?_
  refine R_iconst X dX10_latitudeOf_5 ?_
  refine R_iload_n X 1 dX10_latitudeOf_6 rfl rfl ?_
  refine R_imul X dX10_latitudeOf_7 ?_
  refine R_iadd X dX10_latitudeOf_8 ?_
  obtain ⟨hq1, hf⟩ := zgrd hf
  refine R_iald X lc_216 hq1 dX10_latitudeOf_9 ?_
  exact R_iret X hr hk0 dX10_latitudeOf_10 hf
theorem dX10_distanceOf_0 : decode cX10_distanceOf 0 = .ok (.aload_n 0, 1) := by decide +kernel
theorem dX10_distanceOf_1 : decode cX10_distanceOf 1 = .ok (.iload_n 1, 1) := by decide +kernel
theorem dX10_distanceOf_2 : decode cX10_distanceOf 2 = .ok (.invokevirtual 64, 3) := by decide +kernel
theorem dX10_distanceOf_5 : decode cX10_distanceOf 5 = .ok (.aload_n 0, 1) := by decide +kernel
theorem dX10_distanceOf_6 : decode cX10_distanceOf 6 = .ok (.getfield 7, 3) := by decide +kernel
theorem dX10_distanceOf_9 : decode cX10_distanceOf 9 = .ok (.sipush 852, 3) := by decide +kernel
theorem dX10_distanceOf_12 : decode cX10_distanceOf 12 = .ok (.aload_n 0, 1) := by decide +kernel
theorem dX10_distanceOf_13 : decode cX10_distanceOf 13 = .ok (.invokevirtual 67, 3) := by decide +kernel
theorem dX10_distanceOf_16 : decode cX10_distanceOf 16 = .ok (.iadd, 1) := by decide +kernel
theorem dX10_distanceOf_17 : decode cX10_distanceOf 17 = .ok (.iaload, 1) := by decide +kernel
theorem dX10_distanceOf_18 : decode cX10_distanceOf 18 = .ok (.isub, 1) := by decide +kernel
theorem dX10_distanceOf_19 : decode cX10_distanceOf 19 = .ok (.istore_n 2, 1) := by decide +kernel
theorem dX10_distanceOf_20 : decode cX10_distanceOf 20 = .ok (.iload_n 2, 1) := by decide +kernel
theorem dX10_distanceOf_21 : decode cX10_distanceOf 21 = .ok (.ifCond .ge 8, 3) := by decide +kernel
theorem dX10_distanceOf_24 : decode cX10_distanceOf 24 = .ok (.iload_n 2, 1) := by decide +kernel
theorem dX10_distanceOf_25 : decode cX10_distanceOf 25 = .ok (.ineg, 1) := by decide +kernel
theorem dX10_distanceOf_26 : decode cX10_distanceOf 26 = .ok (.goto 4, 3) := by decide +kernel
theorem dX10_distanceOf_29 : decode cX10_distanceOf 29 = .ok (.iload_n 2, 1) := by decide +kernel
theorem dX10_distanceOf_30 : decode cX10_distanceOf 30 = .ok (.ireturn, 1) := by decide +kernel
set_option maxRecDepth 100000 in
set_option maxHeartbeats 4000000 in
theorem c_X10_distanceOf (l : Launch) (D : va_G) (cas : Nat → ClassId) (ad : Nat → Nat) (hi : zInj ad) {v1 : Int}  {r : Int} {M M' : Mem} (hf : f_X10_distanceOf v1 M = some (r, M')) : zMi l D cas ad yX10_distanceOf cX10_distanceOf 3 (some .int) 1 21 [.ref (ad 215), .int (zI v1)] M r M' := by
  refine zbody (by decide) (Nat.le_of_ble_eq_true rfl) hi ?_
  intro p e s m args below meth c X hr hk0
  have X : zX p s m args c cX10_distanceOf "ShardTrailsModel" 3 D cas ad (zA ad) := X
  have hB30 : ∀ (t1 : Int) (M : Mem), f_X10_distanceOf_b30 t1 M = some (r, M') → WW p l e (zrm 1 21) s m args below meth c D cas ad (zA ad) 3 0 0 (MQ below (zQi D cas ad r M') args s 0 0 (zA ad)) 30 [] [.int (zI t1)] M := by
    intro t1 M hf
    unfold f_X10_distanceOf_b30 at hf
    exact R_iret X hr hk0 dX10_distanceOf_30 hf
  unfold f_X10_distanceOf at hf
  refine (?_ : WW p l e (zrm 1 21) s m args below meth c D cas ad (zA ad) 3 0 0 (MQ below (zQi D cas ad r M') args s 0 0 (zA ad)) 0 [(0, .ref (ad 215)), (1, .int (zI v1))] [] M)
  refine R_aload_n X 0 dX10_distanceOf_0 rfl rfl ?_
  refine R_iload_n X 1 dX10_distanceOf_1 rfl rfl ?_
  obtain ⟨r1, M2, hc3, hf⟩ := zbnd_some hf
  refine R_callVi X (av := [.int (zI v1)]) (rest := []) (c_X10_latitudeOf l D cas ad hi hc3) zy_X10_latitudeOf lc_215 rfl rfl wm_X10_64 rfl rfl ⟨Nat.le_of_ble_eq_true rfl, Nat.le_of_ble_eq_true rfl⟩ ⟨Nat.le_refl _, Nat.le_refl _⟩ (Nat.le_of_ble_eq_true rfl) dX10_distanceOf_2 ?_
  refine R_aload_n X 0 dX10_distanceOf_5 rfl rfl ?_
  refine R_getR X (j := 0) 1 216 lc_215 rfl inX10 (by decide) rfl rfl (by decide) rfl rfl wf_X10_7 dX10_distanceOf_6 ?_
  refine R_sipush X dX10_distanceOf_9 (by decide +kernel) ?_
  refine R_aload_n X 0 dX10_distanceOf_12 rfl rfl ?_
  obtain ⟨r4, M5, hc6, hf⟩ := zbnd_some hf
  refine R_callVi X (av := []) (rest := [.int (zI 852), .ref (ad 216), .int (zI r1)]) (c_X10_season l D cas ad hi hc6) zy_X10_season lc_215 rfl rfl wm_X10_67 rfl rfl ⟨Nat.le_of_ble_eq_true rfl, Nat.le_of_ble_eq_true rfl⟩ ⟨Nat.le_refl _, Nat.le_refl _⟩ (Nat.le_of_ble_eq_true rfl) dX10_distanceOf_13 ?_
  refine R_iadd X dX10_distanceOf_16 ?_
  obtain ⟨hq7, hf⟩ := zgrd hf
  refine R_iald X lc_216 hq7 dX10_distanceOf_17 ?_
  refine R_isub X dX10_distanceOf_18 ?_
  obtain ⟨x8, ex8, hf⟩ := zlt_some hf
  refine R_istore_nX X (lv' := [(2, .int (zI x8)), (0, .ref (ad 215)), (1, .int (zI v1))]) ex8 dX10_distanceOf_19 rfl (by decide) rfl ?_
  refine R_iload_n X 0 dX10_distanceOf_20 rfl rfl ?_
  obtain ⟨hq9, hf⟩ := zgrd hf
  refine R_if_ge X 29 hq9 dX10_distanceOf_21 (by decide) (fun c10 => ?_) (fun c10 => ?_)
  · have hf := zthen hf c10
    refine R_iload_n X 0 dX10_distanceOf_29 rfl rfl ?_
    exact R_sub [] rfl (hB30 x8 M5 hf)
  · have hf := zelse hf c10
    refine R_iload_n X 0 dX10_distanceOf_24 rfl rfl ?_
    refine R_ineg X dX10_distanceOf_25 ?_
    refine R_goto X 30 dX10_distanceOf_26 (by decide) ?_
    exact R_sub [] rfl (hB30 (-x8) M5 hf)
theorem dX10_go_0 : decode cX10_go 0 = .ok (.aload_n 0, 1) := by decide +kernel
theorem dX10_go_1 : decode cX10_go 1 = .ok (.getfield 7, 3) := by decide +kernel
theorem dX10_go_4 : decode cX10_go 4 = .ok (.sipush 416, 3) := by decide +kernel
theorem dX10_go_7 : decode cX10_go 7 = .ok (.iload_n 1, 1) := by decide +kernel
theorem dX10_go_8 : decode cX10_go 8 = .ok (.iadd, 1) := by decide +kernel
theorem dX10_go_9 : decode cX10_go 9 = .ok (.iaload, 1) := by decide +kernel
theorem dX10_go_10 : decode cX10_go 10 = .ok (.istore_n 3, 1) := by decide +kernel
theorem dX10_go_11 : decode cX10_go 11 = .ok (.aload_n 0, 1) := by decide +kernel
theorem dX10_go_12 : decode cX10_go 12 = .ok (.getfield 7, 3) := by decide +kernel
theorem dX10_go_15 : decode cX10_go 15 = .ok (.sipush 160, 3) := by decide +kernel
theorem dX10_go_18 : decode cX10_go 18 = .ok (.iload_n 3, 1) := by decide +kernel
theorem dX10_go_19 : decode cX10_go 19 = .ok (.iload_n 1, 1) := by decide +kernel
theorem dX10_go_20 : decode cX10_go 20 = .ok (.invokestatic 70, 3) := by decide +kernel
theorem dX10_go_23 : decode cX10_go 23 = .ok (.iload_n 2, 1) := by decide +kernel
theorem dX10_go_24 : decode cX10_go 24 = .ok (.iconst 1, 1) := by decide +kernel
theorem dX10_go_25 : decode cX10_go 25 = .ok (.iadd, 1) := by decide +kernel
theorem dX10_go_26 : decode cX10_go 26 = .ok (.iastore, 1) := by decide +kernel
theorem dX10_go_27 : decode cX10_go 27 = .ok (.aload_n 0, 1) := by decide +kernel
theorem dX10_go_28 : decode cX10_go 28 = .ok (.getfield 7, 3) := by decide +kernel
theorem dX10_go_31 : decode cX10_go 31 = .ok (.sipush 288, 3) := by decide +kernel
theorem dX10_go_34 : decode cX10_go 34 = .ok (.iload_n 3, 1) := by decide +kernel
theorem dX10_go_35 : decode cX10_go 35 = .ok (.iload_n 1, 1) := by decide +kernel
theorem dX10_go_36 : decode cX10_go 36 = .ok (.invokestatic 70, 3) := by decide +kernel
theorem dX10_go_39 : decode cX10_go 39 = .ok (.aload_n 0, 1) := by decide +kernel
theorem dX10_go_40 : decode cX10_go 40 = .ok (.getfield 7, 3) := by decide +kernel
theorem dX10_go_43 : decode cX10_go 43 = .ok (.sipush 862, 3) := by decide +kernel
theorem dX10_go_46 : decode cX10_go 46 = .ok (.iaload, 1) := by decide +kernel
theorem dX10_go_47 : decode cX10_go 47 = .ok (.iastore, 1) := by decide +kernel
theorem dX10_go_48 : decode cX10_go 48 = .ok (.aload_n 0, 1) := by decide +kernel
theorem dX10_go_49 : decode cX10_go 49 = .ok (.getfield 7, 3) := by decide +kernel
theorem dX10_go_52 : decode cX10_go 52 = .ok (.sipush 160, 3) := by decide +kernel
theorem dX10_go_55 : decode cX10_go 55 = .ok (.iload_n 2, 1) := by decide +kernel
theorem dX10_go_56 : decode cX10_go 56 = .ok (.iload_n 1, 1) := by decide +kernel
theorem dX10_go_57 : decode cX10_go 57 = .ok (.invokestatic 70, 3) := by decide +kernel
theorem dX10_go_60 : decode cX10_go 60 = .ok (.iconst 0, 1) := by decide +kernel
theorem dX10_go_61 : decode cX10_go 61 = .ok (.iastore, 1) := by decide +kernel
theorem dX10_go_62 : decode cX10_go 62 = .ok (.aload_n 0, 1) := by decide +kernel
theorem dX10_go_63 : decode cX10_go 63 = .ok (.getfield 7, 3) := by decide +kernel
theorem dX10_go_66 : decode cX10_go 66 = .ok (.sipush 416, 3) := by decide +kernel
theorem dX10_go_69 : decode cX10_go 69 = .ok (.iload_n 1, 1) := by decide +kernel
theorem dX10_go_70 : decode cX10_go 70 = .ok (.iadd, 1) := by decide +kernel
theorem dX10_go_71 : decode cX10_go 71 = .ok (.iload_n 2, 1) := by decide +kernel
theorem dX10_go_72 : decode cX10_go 72 = .ok (.iastore, 1) := by decide +kernel
theorem dX10_go_73 : decode cX10_go 73 = .ok (.aload_n 0, 1) := by decide +kernel
theorem dX10_go_74 : decode cX10_go 74 = .ok (.getfield 7, 3) := by decide +kernel
theorem dX10_go_77 : decode cX10_go 77 = .ok (.sipush 448, 3) := by decide +kernel
theorem dX10_go_80 : decode cX10_go 80 = .ok (.iload_n 1, 1) := by decide +kernel
theorem dX10_go_81 : decode cX10_go 81 = .ok (.iadd, 1) := by decide +kernel
theorem dX10_go_82 : decode cX10_go 82 = .ok (.dup2, 1) := by decide +kernel
theorem dX10_go_83 : decode cX10_go 83 = .ok (.iaload, 1) := by decide +kernel
theorem dX10_go_84 : decode cX10_go 84 = .ok (.iconst 1, 1) := by decide +kernel
theorem dX10_go_85 : decode cX10_go 85 = .ok (.iadd, 1) := by decide +kernel
theorem dX10_go_86 : decode cX10_go 86 = .ok (.iastore, 1) := by decide +kernel
theorem dX10_go_87 : decode cX10_go 87 = .ok (.aload_n 0, 1) := by decide +kernel
theorem dX10_go_88 : decode cX10_go 88 = .ok (.getfield 7, 3) := by decide +kernel
theorem dX10_go_91 : decode cX10_go 91 = .ok (.sipush 866, 3) := by decide +kernel
theorem dX10_go_94 : decode cX10_go 94 = .ok (.dup2, 1) := by decide +kernel
theorem dX10_go_95 : decode cX10_go 95 = .ok (.iaload, 1) := by decide +kernel
theorem dX10_go_96 : decode cX10_go 96 = .ok (.iconst 1, 1) := by decide +kernel
theorem dX10_go_97 : decode cX10_go 97 = .ok (.iadd, 1) := by decide +kernel
theorem dX10_go_98 : decode cX10_go 98 = .ok (.iastore, 1) := by decide +kernel
theorem dX10_go_99 : decode cX10_go 99 = .ok (.return_, 1) := by decide +kernel
set_option maxRecDepth 100000 in
set_option maxHeartbeats 4000000 in
theorem c_X10_go (l : Launch) (D : va_G) (cas : Nat → ClassId) (ad : Nat → Nat) (hi : zInj ad) {v1 : Int} {v2 : Int}  {r : Int} {M M' : Mem} (hf : f_X10_go v1 v2 M = some (r, M')) : zMv l D cas ad yX10_go cX10_go 4 1 22 [.ref (ad 215), .int (zI v1), .int (zI v2)] M M' := by
  refine zbody (by decide) (Nat.le_of_ble_eq_true rfl) hi ?_
  intro p e s m args below meth c X hr hk0
  have X : zX p s m args c cX10_go "ShardTrailsModel" 4 D cas ad (zA ad) := X
  unfold f_X10_go at hf
  refine (?_ : WW p l e (zrm 1 22) s m args below meth c D cas ad (zA ad) 4 0 0 (MQ below (zQv D cas ad M') args s 0 0 (zA ad)) 0 [(0, .ref (ad 215)), (1, .int (zI v1)), (2, .int (zI v2))] [] M)
  refine R_aload_n X 0 dX10_go_0 rfl rfl ?_
  refine R_getR X (j := 0) 1 216 lc_215 rfl inX10 (by decide) rfl rfl (by decide) rfl rfl wf_X10_7 dX10_go_1 ?_
  refine R_sipush X dX10_go_4 (by decide +kernel) ?_
  refine R_iload_n X 1 dX10_go_7 rfl rfl ?_
  refine R_iadd X dX10_go_8 ?_
  obtain ⟨hq1, hf⟩ := zgrd hf
  refine R_iald X lc_216 hq1 dX10_go_9 ?_
  obtain ⟨x2, ex2, hf⟩ := zlt_some hf
  refine R_istore_nX X (lv' := [(3, .int (zI x2)), (0, .ref (ad 215)), (1, .int (zI v1)), (2, .int (zI v2))]) ex2 dX10_go_10 rfl (by decide) rfl ?_
  refine R_aload_n X 1 dX10_go_11 rfl rfl ?_
  refine R_getR X (j := 0) 1 216 lc_215 rfl inX10 (by decide) rfl rfl (by decide) rfl rfl wf_X10_7 dX10_go_12 ?_
  refine R_sipush X dX10_go_15 (by decide +kernel) ?_
  refine R_iload_n X 0 dX10_go_18 rfl rfl ?_
  refine R_iload_n X 2 dX10_go_19 rfl rfl ?_
  obtain ⟨r3, M4, hc5, hf⟩ := zbnd_some hf
  refine R_callSi X (av := [.int (zI 160), .int (zI x2), .int (zI v1)]) (rest := [.ref (ad 216)]) (c_X10_at l D cas ad hi hc5) zy_X10_at wm_X10_70 rfl rfl ⟨Nat.le_of_ble_eq_true rfl, Nat.le_of_ble_eq_true rfl⟩ ⟨Nat.le_refl _, Nat.le_refl _⟩ (Nat.le_of_ble_eq_true rfl) dX10_go_20 ?_
  refine R_iload_n X 3 dX10_go_23 rfl rfl ?_
  refine R_iconst X dX10_go_24 ?_
  refine R_iadd X dX10_go_25 ?_
  obtain ⟨hq6, hf⟩ := zgrd hf
  obtain ⟨M7, eM7, hf⟩ := zlt_some hf
  refine R_iast X lc_216 hq6 dX10_go_26 ?_
  refine R_mem eM7 ?_
  refine R_aload_n X 1 dX10_go_27 rfl rfl ?_
  refine R_getR X (j := 0) 1 216 lc_215 rfl inX10 (by decide) rfl rfl (by decide) rfl rfl wf_X10_7 dX10_go_28 ?_
  refine R_sipush X dX10_go_31 (by decide +kernel) ?_
  refine R_iload_n X 0 dX10_go_34 rfl rfl ?_
  refine R_iload_n X 2 dX10_go_35 rfl rfl ?_
  obtain ⟨r8, M9, hc10, hf⟩ := zbnd_some hf
  refine R_callSi X (av := [.int (zI 288), .int (zI x2), .int (zI v1)]) (rest := [.ref (ad 216)]) (c_X10_at l D cas ad hi hc10) zy_X10_at wm_X10_70 rfl rfl ⟨Nat.le_of_ble_eq_true rfl, Nat.le_of_ble_eq_true rfl⟩ ⟨Nat.le_refl _, Nat.le_refl _⟩ (Nat.le_of_ble_eq_true rfl) dX10_go_36 ?_
  refine R_aload_n X 1 dX10_go_39 rfl rfl ?_
  refine R_getR X (j := 0) 1 216 lc_215 rfl inX10 (by decide) rfl rfl (by decide) rfl rfl wf_X10_7 dX10_go_40 ?_
  refine R_sipush X dX10_go_43 (by decide +kernel) ?_
  refine R_iald X lc_216 (by decide) dX10_go_46 ?_
  obtain ⟨hq11, hf⟩ := zgrd hf
  obtain ⟨M12, eM12, hf⟩ := zlt_some hf
  refine R_iast X lc_216 hq11 dX10_go_47 ?_
  refine R_mem eM12 ?_
  refine R_aload_n X 1 dX10_go_48 rfl rfl ?_
  refine R_getR X (j := 0) 1 216 lc_215 rfl inX10 (by decide) rfl rfl (by decide) rfl rfl wf_X10_7 dX10_go_49 ?_
  refine R_sipush X dX10_go_52 (by decide +kernel) ?_
  refine R_iload_n X 3 dX10_go_55 rfl rfl ?_
  refine R_iload_n X 2 dX10_go_56 rfl rfl ?_
  obtain ⟨r13, M14, hc15, hf⟩ := zbnd_some hf
  refine R_callSi X (av := [.int (zI 160), .int (zI v2), .int (zI v1)]) (rest := [.ref (ad 216)]) (c_X10_at l D cas ad hi hc15) zy_X10_at wm_X10_70 rfl rfl ⟨Nat.le_of_ble_eq_true rfl, Nat.le_of_ble_eq_true rfl⟩ ⟨Nat.le_refl _, Nat.le_refl _⟩ (Nat.le_of_ble_eq_true rfl) dX10_go_57 ?_
  refine R_iconst X dX10_go_60 ?_
  obtain ⟨hq16, hf⟩ := zgrd hf
  obtain ⟨M17, eM17, hf⟩ := zlt_some hf
  refine R_iast X lc_216 hq16 dX10_go_61 ?_
  refine R_mem eM17 ?_
  refine R_aload_n X 1 dX10_go_62 rfl rfl ?_
  refine R_getR X (j := 0) 1 216 lc_215 rfl inX10 (by decide) rfl rfl (by decide) rfl rfl wf_X10_7 dX10_go_63 ?_
  refine R_sipush X dX10_go_66 (by decide +kernel) ?_
  refine R_iload_n X 2 dX10_go_69 rfl rfl ?_
  refine R_iadd X dX10_go_70 ?_
  refine R_iload_n X 3 dX10_go_71 rfl rfl ?_
  obtain ⟨M18, eM18, hf⟩ := zlt_some hf
  refine R_iast X lc_216 hq1 dX10_go_72 ?_
  refine R_mem eM18 ?_
  refine R_aload_n X 1 dX10_go_73 rfl rfl ?_
  refine R_getR X (j := 0) 1 216 lc_215 rfl inX10 (by decide) rfl rfl (by decide) rfl rfl wf_X10_7 dX10_go_74 ?_
  refine R_sipush X dX10_go_77 (by decide +kernel) ?_
  refine R_iload_n X 2 dX10_go_80 rfl rfl ?_
  refine R_iadd X dX10_go_81 ?_
  refine R_dup2 X dX10_go_82 rfl rfl ?_
  obtain ⟨hq19, hf⟩ := zgrd hf
  refine R_iald X lc_216 hq19 dX10_go_83 ?_
  refine R_iconst X dX10_go_84 ?_
  refine R_iadd X dX10_go_85 ?_
  obtain ⟨M20, eM20, hf⟩ := zlt_some hf
  refine R_iast X lc_216 hq19 dX10_go_86 ?_
  refine R_mem eM20 ?_
  refine R_aload_n X 1 dX10_go_87 rfl rfl ?_
  refine R_getR X (j := 0) 1 216 lc_215 rfl inX10 (by decide) rfl rfl (by decide) rfl rfl wf_X10_7 dX10_go_88 ?_
  refine R_sipush X dX10_go_91 (by decide +kernel) ?_
  refine R_dup2 X dX10_go_94 rfl rfl ?_
  refine R_iald X lc_216 (by decide) dX10_go_95 ?_
  refine R_iconst X dX10_go_96 ?_
  refine R_iadd X dX10_go_97 ?_
  obtain ⟨M21, eM21, hf⟩ := zlt_some hf
  refine R_iast X lc_216 (by decide) dX10_go_98 ?_
  refine R_mem eM21 ?_
  exact R_vret X hr hk0 dX10_go_99 hf
theorem dX10_roomOf_0 : decode cX10_roomOf 0 = .ok (.aload_n 0, 1) := by decide +kernel
theorem dX10_roomOf_1 : decode cX10_roomOf 1 = .ok (.getfield 7, 3) := by decide +kernel
theorem dX10_roomOf_4 : decode cX10_roomOf 4 = .ok (.iconst 0, 1) := by decide +kernel
theorem dX10_roomOf_5 : decode cX10_roomOf 5 = .ok (.iconst 4, 1) := by decide +kernel
theorem dX10_roomOf_6 : decode cX10_roomOf 6 = .ok (.iload_n 1, 1) := by decide +kernel
theorem dX10_roomOf_7 : decode cX10_roomOf 7 = .ok (.imul, 1) := by decide +kernel
theorem dX10_roomOf_8 : decode cX10_roomOf 8 = .ok (.iadd, 1) := by decide +kernel
theorem dX10_roomOf_9 : decode cX10_roomOf 9 = .ok (.iconst 1, 1) := by decide +kernel
theorem dX10_roomOf_10 : decode cX10_roomOf 10 = .ok (.iadd, 1) := by decide +kernel
theorem dX10_roomOf_11 : decode cX10_roomOf 11 = .ok (.iaload, 1) := by decide +kernel
theorem dX10_roomOf_12 : decode cX10_roomOf 12 = .ok (.ireturn, 1) := by decide +kernel
set_option maxRecDepth 100000 in
set_option maxHeartbeats 4000000 in
theorem c_X10_roomOf (l : Launch) (D : va_G) (cas : Nat → ClassId) (ad : Nat → Nat) (hi : zInj ad) {v1 : Int}  {r : Int} {M M' : Mem} (hf : f_X10_roomOf v1 M = some (r, M')) : zMi l D cas ad yX10_roomOf cX10_roomOf 2 (some .int) 0 0 [.ref (ad 215), .int (zI v1)] M r M' := by
  refine zbody (by decide) (Nat.le_of_ble_eq_true rfl) hi ?_
  intro p e s m args below meth c X hr hk0
  have X : zX p s m args c cX10_roomOf "ShardTrailsModel" 2 D cas ad (zA ad) := X
  unfold f_X10_roomOf at hf
  refine (?_ : WW p l e (zrm 0 0) s m args below meth c D cas ad (zA ad) 2 0 0 (MQ below (zQi D cas ad r M') args s 0 0 (zA ad)) 0 [(0, .ref (ad 215)), (1, .int (zI v1))] [] M)
  refine R_aload_n X 0 dX10_roomOf_0 rfl rfl ?_
  refine R_getR X (j := 0) 1 216 lc_215 rfl inX10 (by decide) rfl rfl (by decide) rfl rfl wf_X10_7 dX10_roomOf_1 ?_
  refine R_iconst X dX10_roomOf_4 ?_
  refine R_iconst X dX10_roomOf_5 ?_
  refine R_iload_n X 1 dX10_roomOf_6 rfl rfl ?_
  refine R_imul X dX10_roomOf_7 ?_
  refine R_iadd X dX10_roomOf_8 ?_
  refine R_iconst X dX10_roomOf_9 ?_
  refine R_iadd X dX10_roomOf_10 ?_
  obtain ⟨hq1, hf⟩ := zgrd hf
  refine R_iald X lc_216 hq1 dX10_roomOf_11 ?_
  exact R_iret X hr hk0 dX10_roomOf_12 hf
theorem dX10_shardsIn_0 : decode cX10_shardsIn 0 = .ok (.iconst 0, 1) := by decide +kernel
theorem dX10_shardsIn_1 : decode cX10_shardsIn 1 = .ok (.istore_n 2, 1) := by decide +kernel
theorem dX10_shardsIn_2 : decode cX10_shardsIn 2 = .ok (.iconst 0, 1) := by decide +kernel
theorem dX10_shardsIn_3 : decode cX10_shardsIn 3 = .ok (.istore_n 3, 1) := by decide +kernel
theorem dX10_shardsIn_4 : decode cX10_shardsIn 4 = .ok (.iload_n 3, 1) := by decide +kernel
theorem dX10_shardsIn_5 : decode cX10_shardsIn 5 = .ok (.bipush 16, 2) := by decide +kernel
theorem dX10_shardsIn_7 : decode cX10_shardsIn 7 = .ok (.if_icmp .ge 31, 3) := by decide +kernel
theorem dX10_shardsIn_10 : decode cX10_shardsIn 10 = .ok (.iload_n 2, 1) := by decide +kernel
theorem dX10_shardsIn_11 : decode cX10_shardsIn 11 = .ok (.aload_n 0, 1) := by decide +kernel
theorem dX10_shardsIn_12 : decode cX10_shardsIn 12 = .ok (.getfield 7, 3) := by decide +kernel
theorem dX10_shardsIn_15 : decode cX10_shardsIn 15 = .ok (.sipush 416, 3) := by decide +kernel
theorem dX10_shardsIn_18 : decode cX10_shardsIn 18 = .ok (.iload_n 3, 1) := by decide +kernel
theorem dX10_shardsIn_19 : decode cX10_shardsIn 19 = .ok (.iadd, 1) := by decide +kernel
theorem dX10_shardsIn_20 : decode cX10_shardsIn 20 = .ok (.iaload, 1) := by decide +kernel
theorem dX10_shardsIn_21 : decode cX10_shardsIn 21 = .ok (.iload_n 1, 1) := by decide +kernel
theorem dX10_shardsIn_22 : decode cX10_shardsIn 22 = .ok (.if_icmp .ne 7, 3) := by decide +kernel
theorem dX10_shardsIn_25 : decode cX10_shardsIn 25 = .ok (.iconst 1, 1) := by decide +kernel
theorem dX10_shardsIn_26 : decode cX10_shardsIn 26 = .ok (.goto 4, 3) := by decide +kernel
theorem dX10_shardsIn_29 : decode cX10_shardsIn 29 = .ok (.iconst 0, 1) := by decide +kernel
theorem dX10_shardsIn_30 : decode cX10_shardsIn 30 = .ok (.iadd, 1) := by decide +kernel
theorem dX10_shardsIn_31 : decode cX10_shardsIn 31 = .ok (.istore_n 2, 1) := by decide +kernel
theorem dX10_shardsIn_32 : decode cX10_shardsIn 32 = .ok (.iinc 3 1, 3) := by decide +kernel
theorem dX10_shardsIn_35 : decode cX10_shardsIn 35 = .ok (.goto (-31), 3) := by decide +kernel
theorem dX10_shardsIn_38 : decode cX10_shardsIn 38 = .ok (.iload_n 2, 1) := by decide +kernel
theorem dX10_shardsIn_39 : decode cX10_shardsIn 39 = .ok (.ireturn, 1) := by decide +kernel
set_option maxRecDepth 100000 in
set_option maxHeartbeats 4000000 in
theorem c_X10_shardsIn (l : Launch) (D : va_G) (cas : Nat → ClassId) (ad : Nat → Nat) (hi : zInj ad) {v1 : Int}  {r : Int} {M M' : Mem} (hf : f_X10_shardsIn v1 M = some (r, M')) : zMi l D cas ad yX10_shardsIn cX10_shardsIn 4 (some .int) 0 0 [.ref (ad 215), .int (zI v1)] M r M' := by
  refine zbody (by decide) (Nat.le_of_ble_eq_true rfl) hi ?_
  intro p e s m args below meth c X hr hk0
  have X : zX p s m args c cX10_shardsIn "ShardTrailsModel" 4 D cas ad (zA ad) := X
  have hB30 : ∀ (g4 : Int → Int → Int → Mem → Option (Int × Mem)) (hg4 : ∀ (v1 v2 v3 : Int) (M : Mem), g4 v1 v2 v3 M = some (r, M') → WW p l e (zrm 0 0) s m args below meth c D cas ad (zA ad) 4 0 0 (MQ below (zQi D cas ad r M') args s 0 0 (zA ad)) 4 [(0, .ref (ad 215)), (1, .int (zI v1)), (2, .int (zI v2)), (3, .int (zI v3))] [] M) (v1 v3 t2 t1 : Int) (M : Mem), f_X10_shardsIn_b30 g4 v1 v3 t2 t1 M = some (r, M') → WW p l e (zrm 0 0) s m args below meth c D cas ad (zA ad) 4 0 0 (MQ below (zQi D cas ad r M') args s 0 0 (zA ad)) 30 [(0, .ref (ad 215)), (1, .int (zI v1)), (3, .int (zI v3))] [.int (zI t2), .int (zI t1)] M := by
    intro g4 hg4 v1 v3 t2 t1 M hf
    unfold f_X10_shardsIn_b30 at hf
    refine R_iadd X dX10_shardsIn_30 ?_
    obtain ⟨x7, ex7, hf⟩ := zlt_some hf
    refine R_istore_nX X (lv' := [(2, .int (zI x7)), (0, .ref (ad 215)), (1, .int (zI v1)), (3, .int (zI v3))]) ex7 dX10_shardsIn_31 rfl (by decide) rfl ?_
    refine R_iinc X (lv' := [(3, .int (zI (v3 + 1))), (2, .int (zI x7)), (0, .ref (ad 215)), (1, .int (zI v1))]) 3 dX10_shardsIn_32 rfl (by decide) rfl ?_
    refine R_goto X 4 dX10_shardsIn_35 (by decide) ?_
    exact R_sub [2, 3, 1, 0] rfl (hg4 v1 x7 (v3 + 1) M hf)
  have hB4 : ∀ (n : Nat) (v1 v2 v3 : Int) (M : Mem), f_X10_shardsIn_b4 n v1 v2 v3 M = some (r, M') → WW p l e (zrm 0 0) s m args below meth c D cas ad (zA ad) 4 0 0 (MQ below (zQi D cas ad r M') args s 0 0 (zA ad)) 4 [(0, .ref (ad 215)), (1, .int (zI v1)), (2, .int (zI v2)), (3, .int (zI v3))] [] M := by
    intro n
    induction n with
    | zero => intro v1 v2 v3 M hf; exact absurd hf (by unfold f_X10_shardsIn_b4; simp)
    | succ n ih =>
      intro v1 v2 v3 M hf
      unfold f_X10_shardsIn_b4 at hf
      refine R_iload_n X 3 dX10_shardsIn_4 rfl rfl ?_
      refine R_bipush X dX10_shardsIn_5 (by decide +kernel) ?_
      obtain ⟨hq1, hf⟩ := zgrd hf
      refine R_icmp_ge X 38 ⟨hq1, (by decide)⟩ dX10_shardsIn_7 (by decide) (fun c6 => ?_) (fun c6 => ?_)
      · have hf := zthen hf c6
        refine R_iload_n X 2 dX10_shardsIn_38 rfl rfl ?_
        exact R_iret X hr hk0 dX10_shardsIn_39 hf
      · have hf := zelse hf c6
        refine R_iload_n X 2 dX10_shardsIn_10 rfl rfl ?_
        refine R_aload_n X 0 dX10_shardsIn_11 rfl rfl ?_
        refine R_getR X (j := 0) 1 216 lc_215 rfl inX10 (by decide) rfl rfl (by decide) rfl rfl wf_X10_7 dX10_shardsIn_12 ?_
        refine R_sipush X dX10_shardsIn_15 (by decide +kernel) ?_
        refine R_iload_n X 3 dX10_shardsIn_18 rfl rfl ?_
        refine R_iadd X dX10_shardsIn_19 ?_
        obtain ⟨hq2, hf⟩ := zgrd hf
        refine R_iald X lc_216 hq2 dX10_shardsIn_20 ?_
        refine R_iload_n X 1 dX10_shardsIn_21 rfl rfl ?_
        obtain ⟨hq3, hf⟩ := zgrd hf
        obtain ⟨hq4, hf⟩ := zgrd hf
        refine R_icmp_ne X 29 ⟨hq3, hq4⟩ dX10_shardsIn_22 (by decide) (fun c5 => ?_) (fun c5 => ?_)
        · have hf := zelse hf c5
          refine R_iconst X dX10_shardsIn_29 ?_
          exact R_sub [0, 1, 3] rfl (hB30 (f_X10_shardsIn_b4 n) ih v1 v3 0 v2 M hf)
        · have hf := zthen hf c5
          refine R_iconst X dX10_shardsIn_25 ?_
          refine R_goto X 30 dX10_shardsIn_26 (by decide) ?_
          exact R_sub [0, 1, 3] rfl (hB30 (f_X10_shardsIn_b4 n) ih v1 v3 1 v2 M hf)
  unfold f_X10_shardsIn at hf
  refine (?_ : WW p l e (zrm 0 0) s m args below meth c D cas ad (zA ad) 4 0 0 (MQ below (zQi D cas ad r M') args s 0 0 (zA ad)) 0 [(0, .ref (ad 215)), (1, .int (zI v1))] [] M)
  refine R_iconst X dX10_shardsIn_0 ?_
  refine R_istore_n X (lv' := [(2, .int (zI 0)), (0, .ref (ad 215)), (1, .int (zI v1))]) dX10_shardsIn_1 rfl (by decide) rfl ?_
  refine R_iconst X dX10_shardsIn_2 ?_
  refine R_istore_n X (lv' := [(3, .int (zI 0)), (2, .int (zI 0)), (0, .ref (ad 215)), (1, .int (zI v1))]) dX10_shardsIn_3 rfl (by decide) rfl ?_
  exact R_sub [2, 3, 1, 0] rfl (hB4 100000 v1 0 0 M hf)
theorem dX10_lookedAt_0 : decode cX10_lookedAt 0 = .ok (.bipush (-5), 2) := by decide +kernel
theorem dX10_lookedAt_2 : decode cX10_lookedAt 2 = .ok (.istore_n 2, 1) := by decide +kernel
theorem dX10_lookedAt_3 : decode cX10_lookedAt 3 = .ok (.iconst 0, 1) := by decide +kernel
theorem dX10_lookedAt_4 : decode cX10_lookedAt 4 = .ok (.istore_n 3, 1) := by decide +kernel
theorem dX10_lookedAt_5 : decode cX10_lookedAt 5 = .ok (.iload_n 3, 1) := by decide +kernel
theorem dX10_lookedAt_6 : decode cX10_lookedAt 6 = .ok (.aload_n 0, 1) := by decide +kernel
theorem dX10_lookedAt_7 : decode cX10_lookedAt 7 = .ok (.getfield 7, 3) := by decide +kernel
theorem dX10_lookedAt_10 : decode cX10_lookedAt 10 = .ok (.sipush 863, 3) := by decide +kernel
theorem dX10_lookedAt_13 : decode cX10_lookedAt 13 = .ok (.iaload, 1) := by decide +kernel
theorem dX10_lookedAt_14 : decode cX10_lookedAt 14 = .ok (.if_icmp .ge 73, 3) := by decide +kernel
theorem dX10_lookedAt_17 : decode cX10_lookedAt 17 = .ok (.iload_n 3, 1) := by decide +kernel
theorem dX10_lookedAt_18 : decode cX10_lookedAt 18 = .ok (.aload_n 0, 1) := by decide +kernel
theorem dX10_lookedAt_19 : decode cX10_lookedAt 19 = .ok (.getfield 7, 3) := by decide +kernel
theorem dX10_lookedAt_22 : decode cX10_lookedAt 22 = .ok (.sipush 416, 3) := by decide +kernel
theorem dX10_lookedAt_25 : decode cX10_lookedAt 25 = .ok (.iload_n 1, 1) := by decide +kernel
theorem dX10_lookedAt_26 : decode cX10_lookedAt 26 = .ok (.iadd, 1) := by decide +kernel
theorem dX10_lookedAt_27 : decode cX10_lookedAt 27 = .ok (.iaload, 1) := by decide +kernel
theorem dX10_lookedAt_28 : decode cX10_lookedAt 28 = .ok (.if_icmp .eq 20, 3) := by decide +kernel
theorem dX10_lookedAt_31 : decode cX10_lookedAt 31 = .ok (.aload_n 0, 1) := by decide +kernel
theorem dX10_lookedAt_32 : decode cX10_lookedAt 32 = .ok (.iload_n 3, 1) := by decide +kernel
theorem dX10_lookedAt_33 : decode cX10_lookedAt 33 = .ok (.invokevirtual 45, 3) := by decide +kernel
theorem dX10_lookedAt_36 : decode cX10_lookedAt 36 = .ok (.aload_n 0, 1) := by decide +kernel
theorem dX10_lookedAt_37 : decode cX10_lookedAt 37 = .ok (.iload_n 3, 1) := by decide +kernel
theorem dX10_lookedAt_38 : decode cX10_lookedAt 38 = .ok (.invokevirtual 49, 3) := by decide +kernel
theorem dX10_lookedAt_41 : decode cX10_lookedAt 41 = .ok (.if_icmp .ge 7, 3) := by decide +kernel
theorem dX10_lookedAt_44 : decode cX10_lookedAt 44 = .ok (.iconst 1, 1) := by decide +kernel
theorem dX10_lookedAt_45 : decode cX10_lookedAt 45 = .ok (.goto 4, 3) := by decide +kernel
theorem dX10_lookedAt_48 : decode cX10_lookedAt 48 = .ok (.iconst 0, 1) := by decide +kernel
theorem dX10_lookedAt_49 : decode cX10_lookedAt 49 = .ok (.istore 4, 2) := by decide +kernel
theorem dX10_lookedAt_51 : decode cX10_lookedAt 51 = .ok (.iload 4, 2) := by decide +kernel
theorem dX10_lookedAt_53 : decode cX10_lookedAt 53 = .ok (.ifCond .eq 26, 3) := by decide +kernel
theorem dX10_lookedAt_56 : decode cX10_lookedAt 56 = .ok (.iload_n 2, 1) := by decide +kernel
theorem dX10_lookedAt_57 : decode cX10_lookedAt 57 = .ok (.bipush (-5), 2) := by decide +kernel
theorem dX10_lookedAt_59 : decode cX10_lookedAt 59 = .ok (.if_icmp .eq 16, 3) := by decide +kernel
theorem dX10_lookedAt_62 : decode cX10_lookedAt 62 = .ok (.aload_n 0, 1) := by decide +kernel
theorem dX10_lookedAt_63 : decode cX10_lookedAt 63 = .ok (.iload_n 3, 1) := by decide +kernel
theorem dX10_lookedAt_64 : decode cX10_lookedAt 64 = .ok (.invokevirtual 92, 3) := by decide +kernel
theorem dX10_lookedAt_67 : decode cX10_lookedAt 67 = .ok (.aload_n 0, 1) := by decide +kernel
theorem dX10_lookedAt_68 : decode cX10_lookedAt 68 = .ok (.iload_n 2, 1) := by decide +kernel
theorem dX10_lookedAt_69 : decode cX10_lookedAt 69 = .ok (.invokevirtual 92, 3) := by decide +kernel
theorem dX10_lookedAt_72 : decode cX10_lookedAt 72 = .ok (.if_icmp .ge 7, 3) := by decide +kernel
theorem dX10_lookedAt_75 : decode cX10_lookedAt 75 = .ok (.iload_n 3, 1) := by decide +kernel
theorem dX10_lookedAt_76 : decode cX10_lookedAt 76 = .ok (.goto 4, 3) := by decide +kernel
theorem dX10_lookedAt_79 : decode cX10_lookedAt 79 = .ok (.iload_n 2, 1) := by decide +kernel
theorem dX10_lookedAt_80 : decode cX10_lookedAt 80 = .ok (.istore_n 2, 1) := by decide +kernel
theorem dX10_lookedAt_81 : decode cX10_lookedAt 81 = .ok (.iinc 3 1, 3) := by decide +kernel
theorem dX10_lookedAt_84 : decode cX10_lookedAt 84 = .ok (.goto (-79), 3) := by decide +kernel
theorem dX10_lookedAt_87 : decode cX10_lookedAt 87 = .ok (.iload_n 2, 1) := by decide +kernel
theorem dX10_lookedAt_88 : decode cX10_lookedAt 88 = .ok (.ireturn, 1) := by decide +kernel
set_option maxRecDepth 100000 in
set_option maxHeartbeats 4000000 in
theorem c_X10_lookedAt (l : Launch) (D : va_G) (cas : Nat → ClassId) (ad : Nat → Nat) (hi : zInj ad) {v1 : Int}  {r : Int} {M M' : Mem} (hf : f_X10_lookedAt v1 M = some (r, M')) : zMi l D cas ad yX10_lookedAt cX10_lookedAt 5 (some .int) 2 43 [.ref (ad 215), .int (zI v1)] M r M' := by
  refine zbody (by decide) (Nat.le_of_ble_eq_true rfl) hi ?_
  intro p e s m args below meth c X hr hk0
  have X : zX p s m args c cX10_lookedAt "ShardTrailsModel" 5 D cas ad (zA ad) := X
  have hB80 : ∀ (g5 : Int → Int → Int → Mem → Option (Int × Mem)) (hg5 : ∀ (v1 v2 v3 : Int) (M : Mem), g5 v1 v2 v3 M = some (r, M') → WW p l e (zrm 2 43) s m args below meth c D cas ad (zA ad) 5 0 0 (MQ below (zQi D cas ad r M') args s 0 0 (zA ad)) 5 [(0, .ref (ad 215)), (1, .int (zI v1)), (2, .int (zI v2)), (3, .int (zI v3))] [] M) (v1 v3 t1 : Int) (M : Mem), f_X10_lookedAt_b80 g5 v1 v3 t1 M = some (r, M') → WW p l e (zrm 2 43) s m args below meth c D cas ad (zA ad) 5 0 0 (MQ below (zQi D cas ad r M') args s 0 0 (zA ad)) 80 [(0, .ref (ad 215)), (1, .int (zI v1)), (3, .int (zI v3))] [.int (zI t1)] M := by
    intro g5 hg5 v1 v3 t1 M hf
    unfold f_X10_lookedAt_b80 at hf
    refine R_istore_n X (lv' := [(2, .int (zI t1)), (0, .ref (ad 215)), (1, .int (zI v1)), (3, .int (zI v3))]) dX10_lookedAt_80 rfl (by decide) rfl ?_
    refine R_iinc X (lv' := [(3, .int (zI (v3 + 1))), (2, .int (zI t1)), (0, .ref (ad 215)), (1, .int (zI v1))]) 3 dX10_lookedAt_81 rfl (by decide) rfl ?_
    refine R_goto X 5 dX10_lookedAt_84 (by decide) ?_
    exact R_sub [2, 3, 1, 0] rfl (hg5 v1 t1 (v3 + 1) M hf)
  have hB75 : ∀ (g5 : Int → Int → Int → Mem → Option (Int × Mem)) (hg5 : ∀ (v1 v2 v3 : Int) (M : Mem), g5 v1 v2 v3 M = some (r, M') → WW p l e (zrm 2 43) s m args below meth c D cas ad (zA ad) 5 0 0 (MQ below (zQi D cas ad r M') args s 0 0 (zA ad)) 5 [(0, .ref (ad 215)), (1, .int (zI v1)), (2, .int (zI v2)), (3, .int (zI v3))] [] M) (v1 v3 : Int) (M : Mem), f_X10_lookedAt_b75 g5 v1 v3 M = some (r, M') → WW p l e (zrm 2 43) s m args below meth c D cas ad (zA ad) 5 0 0 (MQ below (zQi D cas ad r M') args s 0 0 (zA ad)) 75 [(0, .ref (ad 215)), (1, .int (zI v1)), (3, .int (zI v3))] [] M := by
    intro g5 hg5 v1 v3 M hf
    unfold f_X10_lookedAt_b75 at hf
    refine R_iload_n X 2 dX10_lookedAt_75 rfl rfl ?_
    refine R_goto X 80 dX10_lookedAt_76 (by decide) ?_
    exact R_sub [0, 1, 2] rfl (hB80 g5 hg5 v1 v3 v3 M hf)
  have hB79 : ∀ (g5 : Int → Int → Int → Mem → Option (Int × Mem)) (hg5 : ∀ (v1 v2 v3 : Int) (M : Mem), g5 v1 v2 v3 M = some (r, M') → WW p l e (zrm 2 43) s m args below meth c D cas ad (zA ad) 5 0 0 (MQ below (zQi D cas ad r M') args s 0 0 (zA ad)) 5 [(0, .ref (ad 215)), (1, .int (zI v1)), (2, .int (zI v2)), (3, .int (zI v3))] [] M) (v1 v2 v3 : Int) (M : Mem), f_X10_lookedAt_b79 g5 v1 v2 v3 M = some (r, M') → WW p l e (zrm 2 43) s m args below meth c D cas ad (zA ad) 5 0 0 (MQ below (zQi D cas ad r M') args s 0 0 (zA ad)) 79 [(0, .ref (ad 215)), (1, .int (zI v1)), (2, .int (zI v2)), (3, .int (zI v3))] [] M := by
    intro g5 hg5 v1 v2 v3 M hf
    unfold f_X10_lookedAt_b79 at hf
    refine R_iload_n X 2 dX10_lookedAt_79 rfl rfl ?_
    exact R_sub [0, 1, 3] rfl (hB80 g5 hg5 v1 v3 v2 M hf)
  have hB49 : ∀ (g5 : Int → Int → Int → Mem → Option (Int × Mem)) (hg5 : ∀ (v1 v2 v3 : Int) (M : Mem), g5 v1 v2 v3 M = some (r, M') → WW p l e (zrm 2 43) s m args below meth c D cas ad (zA ad) 5 0 0 (MQ below (zQi D cas ad r M') args s 0 0 (zA ad)) 5 [(0, .ref (ad 215)), (1, .int (zI v1)), (2, .int (zI v2)), (3, .int (zI v3))] [] M) (v1 v2 v3 t1 : Int) (M : Mem), f_X10_lookedAt_b49 g5 v1 v2 v3 t1 M = some (r, M') → WW p l e (zrm 2 43) s m args below meth c D cas ad (zA ad) 5 0 0 (MQ below (zQi D cas ad r M') args s 0 0 (zA ad)) 49 [(0, .ref (ad 215)), (1, .int (zI v1)), (2, .int (zI v2)), (3, .int (zI v3))] [.int (zI t1)] M := by
    intro g5 hg5 v1 v2 v3 t1 M hf
    unfold f_X10_lookedAt_b49 at hf
    refine R_istore X (lv' := [(4, .int (zI t1)), (0, .ref (ad 215)), (1, .int (zI v1)), (2, .int (zI v2)), (3, .int (zI v3))]) dX10_lookedAt_49 (by decide) rfl ?_
    refine R_iload X 0 dX10_lookedAt_51 rfl ?_
    obtain ⟨hq16, hf⟩ := zgrd hf
    refine R_if_eq X 79 hq16 dX10_lookedAt_53 (by decide) (fun c28 => ?_) (fun c28 => ?_)
    · have hf := zthen hf c28
      exact R_sub [1, 2, 3, 4] rfl (hB79 g5 hg5 v1 v2 v3 M hf)
    · have hf := zelse hf c28
      refine R_iload_n X 3 dX10_lookedAt_56 rfl rfl ?_
      refine R_bipush X dX10_lookedAt_57 (by decide +kernel) ?_
      obtain ⟨hq17, hf⟩ := zgrd hf
      refine R_icmp_eq X 75 ⟨hq17, (by decide)⟩ dX10_lookedAt_59 (by decide) (fun c27 => ?_) (fun c27 => ?_)
      · have hf := zthen hf c27
        exact R_sub [1, 2, 4] rfl (hB75 g5 hg5 v1 v3 M hf)
      · have hf := zelse hf c27
        refine R_aload_n X 1 dX10_lookedAt_62 rfl rfl ?_
        refine R_iload_n X 4 dX10_lookedAt_63 rfl rfl ?_
        obtain ⟨r18, M19, hc20, hf⟩ := zbnd_some hf
        refine R_callVi X (av := [.int (zI v3)]) (rest := []) (c_X10_distanceOf l D cas ad hi hc20) zy_X10_distanceOf lc_215 rfl rfl wm_X10_92 rfl rfl ⟨Nat.le_of_ble_eq_true rfl, Nat.le_of_ble_eq_true rfl⟩ ⟨Nat.le_refl _, Nat.le_refl _⟩ (Nat.le_of_ble_eq_true rfl) dX10_lookedAt_64 ?_
        refine R_aload_n X 1 dX10_lookedAt_67 rfl rfl ?_
        refine R_iload_n X 3 dX10_lookedAt_68 rfl rfl ?_
        obtain ⟨r21, M22, hc23, hf⟩ := zbnd_some hf
        refine R_callVi X (av := [.int (zI v2)]) (rest := [.int (zI r18)]) (c_X10_distanceOf l D cas ad hi hc23) zy_X10_distanceOf lc_215 rfl rfl wm_X10_92 rfl rfl ⟨Nat.le_of_ble_eq_true rfl, Nat.le_of_ble_eq_true rfl⟩ ⟨Nat.le_refl _, Nat.le_refl _⟩ (Nat.le_of_ble_eq_true rfl) dX10_lookedAt_69 ?_
        obtain ⟨hq24, hf⟩ := zgrd hf
        obtain ⟨hq25, hf⟩ := zgrd hf
        refine R_icmp_ge X 79 ⟨hq24, hq25⟩ dX10_lookedAt_72 (by decide) (fun c26 => ?_) (fun c26 => ?_)
        · have hf := zthen hf c26
          exact R_sub [1, 2, 3, 4] rfl (hB79 g5 hg5 v1 v2 v3 M22 hf)
        · have hf := zelse hf c26
          exact R_sub [1, 2, 4] rfl (hB75 g5 hg5 v1 v3 M22 hf)
  have hB48 : ∀ (g5 : Int → Int → Int → Mem → Option (Int × Mem)) (hg5 : ∀ (v1 v2 v3 : Int) (M : Mem), g5 v1 v2 v3 M = some (r, M') → WW p l e (zrm 2 43) s m args below meth c D cas ad (zA ad) 5 0 0 (MQ below (zQi D cas ad r M') args s 0 0 (zA ad)) 5 [(0, .ref (ad 215)), (1, .int (zI v1)), (2, .int (zI v2)), (3, .int (zI v3))] [] M) (v1 v2 v3 : Int) (M : Mem), f_X10_lookedAt_b48 g5 v1 v2 v3 M = some (r, M') → WW p l e (zrm 2 43) s m args below meth c D cas ad (zA ad) 5 0 0 (MQ below (zQi D cas ad r M') args s 0 0 (zA ad)) 48 [(0, .ref (ad 215)), (1, .int (zI v1)), (2, .int (zI v2)), (3, .int (zI v3))] [] M := by
    intro g5 hg5 v1 v2 v3 M hf
    unfold f_X10_lookedAt_b48 at hf
    refine R_iconst X dX10_lookedAt_48 ?_
    exact R_sub [0, 1, 2, 3] rfl (hB49 g5 hg5 v1 v2 v3 0 M hf)
  have hB5 : ∀ (n : Nat) (v1 v2 v3 : Int) (M : Mem), f_X10_lookedAt_b5 n v1 v2 v3 M = some (r, M') → WW p l e (zrm 2 43) s m args below meth c D cas ad (zA ad) 5 0 0 (MQ below (zQi D cas ad r M') args s 0 0 (zA ad)) 5 [(0, .ref (ad 215)), (1, .int (zI v1)), (2, .int (zI v2)), (3, .int (zI v3))] [] M := by
    intro n
    induction n with
    | zero => intro v1 v2 v3 M hf; exact absurd hf (by unfold f_X10_lookedAt_b5; simp)
    | succ n ih =>
      intro v1 v2 v3 M hf
      unfold f_X10_lookedAt_b5 at hf
      refine R_iload_n X 3 dX10_lookedAt_5 rfl rfl ?_
      refine R_aload_n X 0 dX10_lookedAt_6 rfl rfl ?_
      refine R_getR X (j := 0) 1 216 lc_215 rfl inX10 (by decide) rfl rfl (by decide) rfl rfl wf_X10_7 dX10_lookedAt_7 ?_
      refine R_sipush X dX10_lookedAt_10 (by decide +kernel) ?_
      refine R_iald X lc_216 (by decide) dX10_lookedAt_13 ?_
      obtain ⟨hq1, hf⟩ := zgrd hf
      obtain ⟨hq2, hf⟩ := zgrd hf
      refine R_icmp_ge X 87 ⟨hq1, hq2⟩ dX10_lookedAt_14 (by decide) (fun c15 => ?_) (fun c15 => ?_)
      · have hf := zthen hf c15
        refine R_iload_n X 2 dX10_lookedAt_87 rfl rfl ?_
        exact R_iret X hr hk0 dX10_lookedAt_88 hf
      · have hf := zelse hf c15
        refine R_iload_n X 3 dX10_lookedAt_17 rfl rfl ?_
        refine R_aload_n X 0 dX10_lookedAt_18 rfl rfl ?_
        refine R_getR X (j := 0) 1 216 lc_215 rfl inX10 (by decide) rfl rfl (by decide) rfl rfl wf_X10_7 dX10_lookedAt_19 ?_
        refine R_sipush X dX10_lookedAt_22 (by decide +kernel) ?_
        refine R_iload_n X 1 dX10_lookedAt_25 rfl rfl ?_
        refine R_iadd X dX10_lookedAt_26 ?_
        obtain ⟨hq3, hf⟩ := zgrd hf
        refine R_iald X lc_216 hq3 dX10_lookedAt_27 ?_
        obtain ⟨hq4, hf⟩ := zgrd hf
        refine R_icmp_eq X 48 ⟨hq1, hq4⟩ dX10_lookedAt_28 (by decide) (fun c14 => ?_) (fun c14 => ?_)
        · have hf := zthen hf c14
          exact R_sub [0, 1, 2, 3] rfl (hB48 (f_X10_lookedAt_b5 n) ih v1 v2 v3 M hf)
        · have hf := zelse hf c14
          refine R_aload_n X 0 dX10_lookedAt_31 rfl rfl ?_
          refine R_iload_n X 3 dX10_lookedAt_32 rfl rfl ?_
          obtain ⟨r5, M6, hc7, hf⟩ := zbnd_some hf
          refine R_callVi X (av := [.int (zI v3)]) (rest := []) (c_X10_shardsIn l D cas ad hi hc7) zy_X10_shardsIn lc_215 rfl rfl wm_X10_45 rfl rfl ⟨Nat.le_of_ble_eq_true rfl, Nat.le_of_ble_eq_true rfl⟩ ⟨Nat.le_refl _, Nat.le_refl _⟩ (Nat.le_of_ble_eq_true rfl) dX10_lookedAt_33 ?_
          refine R_aload_n X 0 dX10_lookedAt_36 rfl rfl ?_
          refine R_iload_n X 3 dX10_lookedAt_37 rfl rfl ?_
          obtain ⟨r8, M9, hc10, hf⟩ := zbnd_some hf
          refine R_callVi X (av := [.int (zI v3)]) (rest := [.int (zI r5)]) (c_X10_roomOf l D cas ad hi hc10) zy_X10_roomOf lc_215 rfl rfl wm_X10_49 rfl rfl ⟨Nat.le_of_ble_eq_true rfl, Nat.le_of_ble_eq_true rfl⟩ ⟨Nat.le_refl _, Nat.le_refl _⟩ (Nat.le_of_ble_eq_true rfl) dX10_lookedAt_38 ?_
          obtain ⟨hq11, hf⟩ := zgrd hf
          obtain ⟨hq12, hf⟩ := zgrd hf
          refine R_icmp_ge X 48 ⟨hq11, hq12⟩ dX10_lookedAt_41 (by decide) (fun c13 => ?_) (fun c13 => ?_)
          · have hf := zthen hf c13
            exact R_sub [0, 1, 2, 3] rfl (hB48 (f_X10_lookedAt_b5 n) ih v1 v2 v3 M9 hf)
          · have hf := zelse hf c13
            refine R_iconst X dX10_lookedAt_44 ?_
            refine R_goto X 49 dX10_lookedAt_45 (by decide) ?_
            exact R_sub [0, 1, 2, 3] rfl (hB49 (f_X10_lookedAt_b5 n) ih v1 v2 v3 1 M9 hf)
  unfold f_X10_lookedAt at hf
  refine (?_ : WW p l e (zrm 2 43) s m args below meth c D cas ad (zA ad) 5 0 0 (MQ below (zQi D cas ad r M') args s 0 0 (zA ad)) 0 [(0, .ref (ad 215)), (1, .int (zI v1))] [] M)
  refine R_bipush X dX10_lookedAt_0 (by decide +kernel) ?_
  refine R_istore_n X (lv' := [(2, .int (zI (-5))), (0, .ref (ad 215)), (1, .int (zI v1))]) dX10_lookedAt_2 rfl (by decide) rfl ?_
  refine R_iconst X dX10_lookedAt_3 ?_
  refine R_istore_n X (lv' := [(3, .int (zI 0)), (2, .int (zI (-5))), (0, .ref (ad 215)), (1, .int (zI v1))]) dX10_lookedAt_4 rfl (by decide) rfl ?_
  exact R_sub [2, 3, 1, 0] rfl (hB5 100000 v1 (-5) 0 M hf)
theorem dX10_orderOf_0 : decode cX10_orderOf 0 = .ok (.iconst 0, 1) := by decide +kernel
theorem dX10_orderOf_1 : decode cX10_orderOf 1 = .ok (.istore_n 2, 1) := by decide +kernel
theorem dX10_orderOf_2 : decode cX10_orderOf 2 = .ok (.iconst 0, 1) := by decide +kernel
theorem dX10_orderOf_3 : decode cX10_orderOf 3 = .ok (.istore_n 3, 1) := by decide +kernel
theorem dX10_orderOf_4 : decode cX10_orderOf 4 = .ok (.iload_n 3, 1) := by decide +kernel
theorem dX10_orderOf_5 : decode cX10_orderOf 5 = .ok (.bipush 16, 2) := by decide +kernel
theorem dX10_orderOf_7 : decode cX10_orderOf 7 = .ok (.if_icmp .ge 68, 3) := by decide +kernel
theorem dX10_orderOf_10 : decode cX10_orderOf 10 = .ok (.iload_n 2, 1) := by decide +kernel
theorem dX10_orderOf_11 : decode cX10_orderOf 11 = .ok (.aload_n 0, 1) := by decide +kernel
theorem dX10_orderOf_12 : decode cX10_orderOf 12 = .ok (.getfield 7, 3) := by decide +kernel
theorem dX10_orderOf_15 : decode cX10_orderOf 15 = .ok (.sipush 432, 3) := by decide +kernel
theorem dX10_orderOf_18 : decode cX10_orderOf 18 = .ok (.iload_n 3, 1) := by decide +kernel
theorem dX10_orderOf_19 : decode cX10_orderOf 19 = .ok (.iadd, 1) := by decide +kernel
theorem dX10_orderOf_20 : decode cX10_orderOf 20 = .ok (.iaload, 1) := by decide +kernel
theorem dX10_orderOf_21 : decode cX10_orderOf 21 = .ok (.aload_n 0, 1) := by decide +kernel
theorem dX10_orderOf_22 : decode cX10_orderOf 22 = .ok (.getfield 7, 3) := by decide +kernel
theorem dX10_orderOf_25 : decode cX10_orderOf 25 = .ok (.sipush 432, 3) := by decide +kernel
theorem dX10_orderOf_28 : decode cX10_orderOf 28 = .ok (.iload_n 1, 1) := by decide +kernel
theorem dX10_orderOf_29 : decode cX10_orderOf 29 = .ok (.iadd, 1) := by decide +kernel
theorem dX10_orderOf_30 : decode cX10_orderOf 30 = .ok (.iaload, 1) := by decide +kernel
theorem dX10_orderOf_31 : decode cX10_orderOf 31 = .ok (.if_icmp .gt 31, 3) := by decide +kernel
theorem dX10_orderOf_34 : decode cX10_orderOf 34 = .ok (.iload_n 3, 1) := by decide +kernel
theorem dX10_orderOf_35 : decode cX10_orderOf 35 = .ok (.iload_n 1, 1) := by decide +kernel
theorem dX10_orderOf_36 : decode cX10_orderOf 36 = .ok (.if_icmp .ge 30, 3) := by decide +kernel
theorem dX10_orderOf_39 : decode cX10_orderOf 39 = .ok (.aload_n 0, 1) := by decide +kernel
theorem dX10_orderOf_40 : decode cX10_orderOf 40 = .ok (.getfield 7, 3) := by decide +kernel
theorem dX10_orderOf_43 : decode cX10_orderOf 43 = .ok (.sipush 432, 3) := by decide +kernel
theorem dX10_orderOf_46 : decode cX10_orderOf 46 = .ok (.iload_n 3, 1) := by decide +kernel
theorem dX10_orderOf_47 : decode cX10_orderOf 47 = .ok (.iadd, 1) := by decide +kernel
theorem dX10_orderOf_48 : decode cX10_orderOf 48 = .ok (.iaload, 1) := by decide +kernel
theorem dX10_orderOf_49 : decode cX10_orderOf 49 = .ok (.aload_n 0, 1) := by decide +kernel
theorem dX10_orderOf_50 : decode cX10_orderOf 50 = .ok (.getfield 7, 3) := by decide +kernel
theorem dX10_orderOf_53 : decode cX10_orderOf 53 = .ok (.sipush 432, 3) := by decide +kernel
theorem dX10_orderOf_56 : decode cX10_orderOf 56 = .ok (.iload_n 1, 1) := by decide +kernel
theorem dX10_orderOf_57 : decode cX10_orderOf 57 = .ok (.iadd, 1) := by decide +kernel
theorem dX10_orderOf_58 : decode cX10_orderOf 58 = .ok (.iaload, 1) := by decide +kernel
theorem dX10_orderOf_59 : decode cX10_orderOf 59 = .ok (.if_icmp .ne 7, 3) := by decide +kernel
theorem dX10_orderOf_62 : decode cX10_orderOf 62 = .ok (.iconst 1, 1) := by decide +kernel
theorem dX10_orderOf_63 : decode cX10_orderOf 63 = .ok (.goto 4, 3) := by decide +kernel
theorem dX10_orderOf_66 : decode cX10_orderOf 66 = .ok (.iconst 0, 1) := by decide +kernel
theorem dX10_orderOf_67 : decode cX10_orderOf 67 = .ok (.iadd, 1) := by decide +kernel
theorem dX10_orderOf_68 : decode cX10_orderOf 68 = .ok (.istore_n 2, 1) := by decide +kernel
theorem dX10_orderOf_69 : decode cX10_orderOf 69 = .ok (.iinc 3 1, 3) := by decide +kernel
theorem dX10_orderOf_72 : decode cX10_orderOf 72 = .ok (.goto (-68), 3) := by decide +kernel
theorem dX10_orderOf_75 : decode cX10_orderOf 75 = .ok (.iload_n 2, 1) := by decide +kernel
theorem dX10_orderOf_76 : decode cX10_orderOf 76 = .ok (.ireturn, 1) := by decide +kernel
set_option maxRecDepth 100000 in
set_option maxHeartbeats 4000000 in
theorem c_X10_orderOf (l : Launch) (D : va_G) (cas : Nat → ClassId) (ad : Nat → Nat) (hi : zInj ad) {v1 : Int}  {r : Int} {M M' : Mem} (hf : f_X10_orderOf v1 M = some (r, M')) : zMi l D cas ad yX10_orderOf cX10_orderOf 4 (some .int) 0 0 [.ref (ad 215), .int (zI v1)] M r M' := by
  refine zbody (by decide) (Nat.le_of_ble_eq_true rfl) hi ?_
  intro p e s m args below meth c X hr hk0
  have X : zX p s m args c cX10_orderOf "ShardTrailsModel" 4 D cas ad (zA ad) := X
  have hB67 : ∀ (g4 : Int → Int → Int → Mem → Option (Int × Mem)) (hg4 : ∀ (v1 v2 v3 : Int) (M : Mem), g4 v1 v2 v3 M = some (r, M') → WW p l e (zrm 0 0) s m args below meth c D cas ad (zA ad) 4 0 0 (MQ below (zQi D cas ad r M') args s 0 0 (zA ad)) 4 [(0, .ref (ad 215)), (1, .int (zI v1)), (2, .int (zI v2)), (3, .int (zI v3))] [] M) (v1 v3 t2 t1 : Int) (M : Mem), f_X10_orderOf_b67 g4 v1 v3 t2 t1 M = some (r, M') → WW p l e (zrm 0 0) s m args below meth c D cas ad (zA ad) 4 0 0 (MQ below (zQi D cas ad r M') args s 0 0 (zA ad)) 67 [(0, .ref (ad 215)), (1, .int (zI v1)), (3, .int (zI v3))] [.int (zI t2), .int (zI t1)] M := by
    intro g4 hg4 v1 v3 t2 t1 M hf
    unfold f_X10_orderOf_b67 at hf
    refine R_iadd X dX10_orderOf_67 ?_
    obtain ⟨x11, ex11, hf⟩ := zlt_some hf
    refine R_istore_nX X (lv' := [(2, .int (zI x11)), (0, .ref (ad 215)), (1, .int (zI v1)), (3, .int (zI v3))]) ex11 dX10_orderOf_68 rfl (by decide) rfl ?_
    refine R_iinc X (lv' := [(3, .int (zI (v3 + 1))), (2, .int (zI x11)), (0, .ref (ad 215)), (1, .int (zI v1))]) 3 dX10_orderOf_69 rfl (by decide) rfl ?_
    refine R_goto X 4 dX10_orderOf_72 (by decide) ?_
    exact R_sub [2, 3, 1, 0] rfl (hg4 v1 x11 (v3 + 1) M hf)
  have hB62 : ∀ (g4 : Int → Int → Int → Mem → Option (Int × Mem)) (hg4 : ∀ (v1 v2 v3 : Int) (M : Mem), g4 v1 v2 v3 M = some (r, M') → WW p l e (zrm 0 0) s m args below meth c D cas ad (zA ad) 4 0 0 (MQ below (zQi D cas ad r M') args s 0 0 (zA ad)) 4 [(0, .ref (ad 215)), (1, .int (zI v1)), (2, .int (zI v2)), (3, .int (zI v3))] [] M) (v1 v3 t1 : Int) (M : Mem), f_X10_orderOf_b62 g4 v1 v3 t1 M = some (r, M') → WW p l e (zrm 0 0) s m args below meth c D cas ad (zA ad) 4 0 0 (MQ below (zQi D cas ad r M') args s 0 0 (zA ad)) 62 [(0, .ref (ad 215)), (1, .int (zI v1)), (3, .int (zI v3))] [.int (zI t1)] M := by
    intro g4 hg4 v1 v3 t1 M hf
    unfold f_X10_orderOf_b62 at hf
    refine R_iconst X dX10_orderOf_62 ?_
    refine R_goto X 67 dX10_orderOf_63 (by decide) ?_
    exact R_sub [0, 1, 2] rfl (hB67 g4 hg4 v1 v3 1 t1 M hf)
  have hB66 : ∀ (g4 : Int → Int → Int → Mem → Option (Int × Mem)) (hg4 : ∀ (v1 v2 v3 : Int) (M : Mem), g4 v1 v2 v3 M = some (r, M') → WW p l e (zrm 0 0) s m args below meth c D cas ad (zA ad) 4 0 0 (MQ below (zQi D cas ad r M') args s 0 0 (zA ad)) 4 [(0, .ref (ad 215)), (1, .int (zI v1)), (2, .int (zI v2)), (3, .int (zI v3))] [] M) (v1 v3 t1 : Int) (M : Mem), f_X10_orderOf_b66 g4 v1 v3 t1 M = some (r, M') → WW p l e (zrm 0 0) s m args below meth c D cas ad (zA ad) 4 0 0 (MQ below (zQi D cas ad r M') args s 0 0 (zA ad)) 66 [(0, .ref (ad 215)), (1, .int (zI v1)), (3, .int (zI v3))] [.int (zI t1)] M := by
    intro g4 hg4 v1 v3 t1 M hf
    unfold f_X10_orderOf_b66 at hf
    refine R_iconst X dX10_orderOf_66 ?_
    exact R_sub [0, 1, 2] rfl (hB67 g4 hg4 v1 v3 0 t1 M hf)
  have hB4 : ∀ (n : Nat) (v1 v2 v3 : Int) (M : Mem), f_X10_orderOf_b4 n v1 v2 v3 M = some (r, M') → WW p l e (zrm 0 0) s m args below meth c D cas ad (zA ad) 4 0 0 (MQ below (zQi D cas ad r M') args s 0 0 (zA ad)) 4 [(0, .ref (ad 215)), (1, .int (zI v1)), (2, .int (zI v2)), (3, .int (zI v3))] [] M := by
    intro n
    induction n with
    | zero => intro v1 v2 v3 M hf; exact absurd hf (by unfold f_X10_orderOf_b4; simp)
    | succ n ih =>
      intro v1 v2 v3 M hf
      unfold f_X10_orderOf_b4 at hf
      refine R_iload_n X 3 dX10_orderOf_4 rfl rfl ?_
      refine R_bipush X dX10_orderOf_5 (by decide +kernel) ?_
      obtain ⟨hq1, hf⟩ := zgrd hf
      refine R_icmp_ge X 75 ⟨hq1, (by decide)⟩ dX10_orderOf_7 (by decide) (fun c10 => ?_) (fun c10 => ?_)
      · have hf := zthen hf c10
        refine R_iload_n X 2 dX10_orderOf_75 rfl rfl ?_
        exact R_iret X hr hk0 dX10_orderOf_76 hf
      · have hf := zelse hf c10
        refine R_iload_n X 2 dX10_orderOf_10 rfl rfl ?_
        refine R_aload_n X 0 dX10_orderOf_11 rfl rfl ?_
        refine R_getR X (j := 0) 1 216 lc_215 rfl inX10 (by decide) rfl rfl (by decide) rfl rfl wf_X10_7 dX10_orderOf_12 ?_
        refine R_sipush X dX10_orderOf_15 (by decide +kernel) ?_
        refine R_iload_n X 3 dX10_orderOf_18 rfl rfl ?_
        refine R_iadd X dX10_orderOf_19 ?_
        obtain ⟨hq2, hf⟩ := zgrd hf
        refine R_iald X lc_216 hq2 dX10_orderOf_20 ?_
        refine R_aload_n X 0 dX10_orderOf_21 rfl rfl ?_
        refine R_getR X (j := 0) 1 216 lc_215 rfl inX10 (by decide) rfl rfl (by decide) rfl rfl wf_X10_7 dX10_orderOf_22 ?_
        refine R_sipush X dX10_orderOf_25 (by decide +kernel) ?_
        refine R_iload_n X 1 dX10_orderOf_28 rfl rfl ?_
        refine R_iadd X dX10_orderOf_29 ?_
        obtain ⟨hq3, hf⟩ := zgrd hf
        refine R_iald X lc_216 hq3 dX10_orderOf_30 ?_
        obtain ⟨hq4, hf⟩ := zgrd hf
        obtain ⟨hq5, hf⟩ := zgrd hf
        refine R_icmp_gt X 62 ⟨hq4, hq5⟩ dX10_orderOf_31 (by decide) (fun c9 => ?_) (fun c9 => ?_)
        · have hf := zthen hf c9
          exact R_sub [0, 1, 3] rfl (hB62 (f_X10_orderOf_b4 n) ih v1 v3 v2 M hf)
        · have hf := zelse hf c9
          refine R_iload_n X 3 dX10_orderOf_34 rfl rfl ?_
          refine R_iload_n X 1 dX10_orderOf_35 rfl rfl ?_
          obtain ⟨hq6, hf⟩ := zgrd hf
          refine R_icmp_ge X 66 ⟨hq1, hq6⟩ dX10_orderOf_36 (by decide) (fun c8 => ?_) (fun c8 => ?_)
          · have hf := zthen hf c8
            exact R_sub [0, 1, 3] rfl (hB66 (f_X10_orderOf_b4 n) ih v1 v3 v2 M hf)
          · have hf := zelse hf c8
            refine R_aload_n X 0 dX10_orderOf_39 rfl rfl ?_
            refine R_getR X (j := 0) 1 216 lc_215 rfl inX10 (by decide) rfl rfl (by decide) rfl rfl wf_X10_7 dX10_orderOf_40 ?_
            refine R_sipush X dX10_orderOf_43 (by decide +kernel) ?_
            refine R_iload_n X 3 dX10_orderOf_46 rfl rfl ?_
            refine R_iadd X dX10_orderOf_47 ?_
            refine R_iald X lc_216 hq2 dX10_orderOf_48 ?_
            refine R_aload_n X 0 dX10_orderOf_49 rfl rfl ?_
            refine R_getR X (j := 0) 1 216 lc_215 rfl inX10 (by decide) rfl rfl (by decide) rfl rfl wf_X10_7 dX10_orderOf_50 ?_
            refine R_sipush X dX10_orderOf_53 (by decide +kernel) ?_
            refine R_iload_n X 1 dX10_orderOf_56 rfl rfl ?_
            refine R_iadd X dX10_orderOf_57 ?_
            refine R_iald X lc_216 hq3 dX10_orderOf_58 ?_
            refine R_icmp_ne X 66 ⟨hq4, hq5⟩ dX10_orderOf_59 (by decide) (fun c7 => ?_) (fun c7 => ?_)
            · have hf := zelse hf c7
              exact R_sub [0, 1, 3] rfl (hB66 (f_X10_orderOf_b4 n) ih v1 v3 v2 M hf)
            · have hf := zthen hf c7
              exact R_sub [0, 1, 3] rfl (hB62 (f_X10_orderOf_b4 n) ih v1 v3 v2 M hf)
  unfold f_X10_orderOf at hf
  refine (?_ : WW p l e (zrm 0 0) s m args below meth c D cas ad (zA ad) 4 0 0 (MQ below (zQi D cas ad r M') args s 0 0 (zA ad)) 0 [(0, .ref (ad 215)), (1, .int (zI v1))] [] M)
  refine R_iconst X dX10_orderOf_0 ?_
  refine R_istore_n X (lv' := [(2, .int (zI 0)), (0, .ref (ad 215)), (1, .int (zI v1))]) dX10_orderOf_1 rfl (by decide) rfl ?_
  refine R_iconst X dX10_orderOf_2 ?_
  refine R_istore_n X (lv' := [(3, .int (zI 0)), (2, .int (zI 0)), (0, .ref (ad 215)), (1, .int (zI v1))]) dX10_orderOf_3 rfl (by decide) rfl ?_
  exact R_sub [2, 3, 1, 0] rfl (hB4 100000 v1 0 0 M hf)
theorem dX10_drive_0 : decode cX10_drive 0 = .ok (.aload_n 0, 1) := by decide +kernel
theorem dX10_drive_1 : decode cX10_drive 1 = .ok (.getfield 7, 3) := by decide +kernel
theorem dX10_drive_4 : decode cX10_drive 4 = .ok (.sipush 859, 3) := by decide +kernel
theorem dX10_drive_7 : decode cX10_drive 7 = .ok (.iaload, 1) := by decide +kernel
theorem dX10_drive_8 : decode cX10_drive 8 = .ok (.istore_n 1, 1) := by decide +kernel
theorem dX10_drive_9 : decode cX10_drive 9 = .ok (.iconst 0, 1) := by decide +kernel
theorem dX10_drive_10 : decode cX10_drive 10 = .ok (.istore_n 2, 1) := by decide +kernel
theorem dX10_drive_11 : decode cX10_drive 11 = .ok (.iload_n 2, 1) := by decide +kernel
theorem dX10_drive_12 : decode cX10_drive 12 = .ok (.bipush 16, 2) := by decide +kernel
theorem dX10_drive_14 : decode cX10_drive 14 = .ok (.if_icmp .ge 86, 3) := by decide +kernel
theorem dX10_drive_17 : decode cX10_drive 17 = .ok (.iload_n 1, 1) := by decide +kernel
theorem dX10_drive_18 : decode cX10_drive 18 = .ok (.ifCond .le 82, 3) := by decide +kernel
theorem dX10_drive_21 : decode cX10_drive 21 = .ok (.iconst 0, 1) := by decide +kernel
theorem dX10_drive_22 : decode cX10_drive 22 = .ok (.istore_n 3, 1) := by decide +kernel
theorem dX10_drive_23 : decode cX10_drive 23 = .ok (.aload_n 0, 1) := by decide +kernel
theorem dX10_drive_24 : decode cX10_drive 24 = .ok (.iload_n 3, 1) := by decide +kernel
theorem dX10_drive_25 : decode cX10_drive 25 = .ok (.invokevirtual 95, 3) := by decide +kernel
theorem dX10_drive_28 : decode cX10_drive 28 = .ok (.iload_n 2, 1) := by decide +kernel
theorem dX10_drive_29 : decode cX10_drive 29 = .ok (.if_icmp .eq 9, 3) := by decide +kernel
theorem dX10_drive_32 : decode cX10_drive 32 = .ok (.iinc 3 1, 3) := by decide +kernel
theorem dX10_drive_35 : decode cX10_drive 35 = .ok (.goto (-12), 3) := by decide +kernel
theorem dX10_drive_38 : decode cX10_drive 38 = .ok (.aload_n 0, 1) := by decide +kernel
theorem dX10_drive_39 : decode cX10_drive 39 = .ok (.iload_n 3, 1) := by decide +kernel
theorem dX10_drive_40 : decode cX10_drive 40 = .ok (.invokevirtual 98, 3) := by decide +kernel
theorem dX10_drive_43 : decode cX10_drive 43 = .ok (.istore 4, 2) := by decide +kernel
theorem dX10_drive_45 : decode cX10_drive 45 = .ok (.iload 4, 2) := by decide +kernel
theorem dX10_drive_47 : decode cX10_drive 47 = .ok (.bipush (-5), 2) := by decide +kernel
theorem dX10_drive_49 : decode cX10_drive 49 = .ok (.if_icmp .eq 45, 3) := by decide +kernel
theorem dX10_drive_52 : decode cX10_drive 52 = .ok (.aload_n 0, 1) := by decide +kernel
theorem dX10_drive_53 : decode cX10_drive 53 = .ok (.aload_n 0, 1) := by decide +kernel
theorem dX10_drive_54 : decode cX10_drive 54 = .ok (.getfield 7, 3) := by decide +kernel
theorem dX10_drive_57 : decode cX10_drive 57 = .ok (.sipush 416, 3) := by decide +kernel
theorem dX10_drive_60 : decode cX10_drive 60 = .ok (.iload_n 3, 1) := by decide +kernel
theorem dX10_drive_61 : decode cX10_drive 61 = .ok (.iadd, 1) := by decide +kernel
theorem dX10_drive_62 : decode cX10_drive 62 = .ok (.iaload, 1) := by decide +kernel
theorem dX10_drive_63 : decode cX10_drive 63 = .ok (.invokevirtual 92, 3) := by decide +kernel
theorem dX10_drive_66 : decode cX10_drive 66 = .ok (.aload_n 0, 1) := by decide +kernel
theorem dX10_drive_67 : decode cX10_drive 67 = .ok (.iload 4, 2) := by decide +kernel
theorem dX10_drive_69 : decode cX10_drive 69 = .ok (.invokevirtual 92, 3) := by decide +kernel
theorem dX10_drive_72 : decode cX10_drive 72 = .ok (.isub, 1) := by decide +kernel
theorem dX10_drive_73 : decode cX10_drive 73 = .ok (.aload_n 0, 1) := by decide +kernel
theorem dX10_drive_74 : decode cX10_drive 74 = .ok (.getfield 7, 3) := by decide +kernel
theorem dX10_drive_77 : decode cX10_drive 77 = .ok (.sipush 858, 3) := by decide +kernel
theorem dX10_drive_80 : decode cX10_drive 80 = .ok (.iaload, 1) := by decide +kernel
theorem dX10_drive_81 : decode cX10_drive 81 = .ok (.if_icmp .lt 13, 3) := by decide +kernel
theorem dX10_drive_84 : decode cX10_drive 84 = .ok (.aload_n 0, 1) := by decide +kernel
theorem dX10_drive_85 : decode cX10_drive 85 = .ok (.iload_n 3, 1) := by decide +kernel
theorem dX10_drive_86 : decode cX10_drive 86 = .ok (.iload 4, 2) := by decide +kernel
theorem dX10_drive_88 : decode cX10_drive 88 = .ok (.invokevirtual 77, 3) := by decide +kernel
theorem dX10_drive_91 : decode cX10_drive 91 = .ok (.iinc 1 (-1), 3) := by decide +kernel
theorem dX10_drive_94 : decode cX10_drive 94 = .ok (.iinc 2 1, 3) := by decide +kernel
theorem dX10_drive_97 : decode cX10_drive 97 = .ok (.goto (-86), 3) := by decide +kernel
theorem dX10_drive_100 : decode cX10_drive 100 = .ok (.return_, 1) := by decide +kernel
set_option maxRecDepth 100000 in
set_option maxHeartbeats 4000000 in
theorem c_X10_drive (l : Launch) (D : va_G) (cas : Nat → ClassId) (ad : Nat → Nat) (hi : zInj ad)   {r : Int} {M M' : Mem} (hf : f_X10_drive M = some (r, M')) : zMv l D cas ad yX10_drive cX10_drive 5 3 67 [.ref (ad 215)] M M' := by
  refine zbody (by decide) (Nat.le_of_ble_eq_true rfl) hi ?_
  intro p e s m args below meth c X hr hk0
  have X : zX p s m args c cX10_drive "ShardTrailsModel" 5 D cas ad (zA ad) := X
  have hB94 : ∀ (g11 : Int → Int → Mem → Option (Int × Mem)) (hg11 : ∀ (v1 v2 : Int) (M : Mem), g11 v1 v2 M = some (r, M') → WW p l e (zrm 3 67) s m args below meth c D cas ad (zA ad) 5 0 0 (MQ below (zQv D cas ad M') args s 0 0 (zA ad)) 11 [(0, .ref (ad 215)), (1, .int (zI v1)), (2, .int (zI v2))] [] M) (v1 v2 : Int) (M : Mem), f_X10_drive_b94 g11 v1 v2 M = some (r, M') → WW p l e (zrm 3 67) s m args below meth c D cas ad (zA ad) 5 0 0 (MQ below (zQv D cas ad M') args s 0 0 (zA ad)) 94 [(0, .ref (ad 215)), (1, .int (zI v1)), (2, .int (zI v2))] [] M := by
    intro g11 hg11 v1 v2 M hf
    unfold f_X10_drive_b94 at hf
    refine R_iinc X (lv' := [(2, .int (zI (v2 + 1))), (0, .ref (ad 215)), (1, .int (zI v1))]) 2 dX10_drive_94 rfl (by decide) rfl ?_
    refine R_goto X 11 dX10_drive_97 (by decide) ?_
    exact R_sub [1, 2, 0] rfl (hg11 v1 (v2 + 1) M hf)
  have hB23 : ∀ (g11 : Int → Int → Mem → Option (Int × Mem)) (hg11 : ∀ (v1 v2 : Int) (M : Mem), g11 v1 v2 M = some (r, M') → WW p l e (zrm 3 67) s m args below meth c D cas ad (zA ad) 5 0 0 (MQ below (zQv D cas ad M') args s 0 0 (zA ad)) 11 [(0, .ref (ad 215)), (1, .int (zI v1)), (2, .int (zI v2))] [] M) (n : Nat) (v1 v2 v3 : Int) (M : Mem), f_X10_drive_b23 g11 n v1 v2 v3 M = some (r, M') → WW p l e (zrm 3 67) s m args below meth c D cas ad (zA ad) 5 0 0 (MQ below (zQv D cas ad M') args s 0 0 (zA ad)) 23 [(0, .ref (ad 215)), (1, .int (zI v1)), (2, .int (zI v2)), (3, .int (zI v3))] [] M := by
    intro g11 hg11 n
    induction n with
    | zero => intro v1 v2 v3 M hf; exact absurd hf (by unfold f_X10_drive_b23; simp)
    | succ n ih =>
      intro v1 v2 v3 M hf
      unfold f_X10_drive_b23 at hf
      refine R_aload_n X 0 dX10_drive_23 rfl rfl ?_
      refine R_iload_n X 3 dX10_drive_24 rfl rfl ?_
      obtain ⟨r6, M7, hc8, hf⟩ := zbnd_some hf
      refine R_callVi X (av := [.int (zI v3)]) (rest := []) (c_X10_orderOf l D cas ad hi hc8) zy_X10_orderOf lc_215 rfl rfl wm_X10_95 rfl rfl ⟨Nat.le_of_ble_eq_true rfl, Nat.le_of_ble_eq_true rfl⟩ ⟨Nat.le_refl _, Nat.le_refl _⟩ (Nat.le_of_ble_eq_true rfl) dX10_drive_25 ?_
      refine R_iload_n X 2 dX10_drive_28 rfl rfl ?_
      obtain ⟨hq9, hf⟩ := zgrd hf
      obtain ⟨hq10, hf⟩ := zgrd hf
      refine R_icmp_eq X 38 ⟨hq9, hq10⟩ dX10_drive_29 (by decide) (fun c29 => ?_) (fun c29 => ?_)
      · have hf := zthen hf c29
        refine R_aload_n X 0 dX10_drive_38 rfl rfl ?_
        refine R_iload_n X 3 dX10_drive_39 rfl rfl ?_
        obtain ⟨r11, M12, hc13, hf⟩ := zbnd_some hf
        refine R_callVi X (av := [.int (zI v3)]) (rest := []) (c_X10_lookedAt l D cas ad hi hc13) zy_X10_lookedAt lc_215 rfl rfl wm_X10_98 rfl rfl ⟨Nat.le_of_ble_eq_true rfl, Nat.le_of_ble_eq_true rfl⟩ ⟨Nat.le_refl _, Nat.le_refl _⟩ (Nat.le_of_ble_eq_true rfl) dX10_drive_40 ?_
        refine R_istore X (lv' := [(4, .int (zI r11)), (0, .ref (ad 215)), (1, .int (zI v1)), (2, .int (zI v2)), (3, .int (zI v3))]) dX10_drive_43 (by decide) rfl ?_
        refine R_iload X 0 dX10_drive_45 rfl ?_
        refine R_bipush X dX10_drive_47 (by decide +kernel) ?_
        obtain ⟨hq14, hf⟩ := zgrd hf
        refine R_icmp_eq X 94 ⟨hq14, (by decide)⟩ dX10_drive_49 (by decide) (fun c28 => ?_) (fun c28 => ?_)
        · have hf := zthen hf c28
          exact R_sub [1, 2, 3] rfl (hB94 g11 hg11 v1 v2 M12 hf)
        · have hf := zelse hf c28
          refine R_aload_n X 1 dX10_drive_52 rfl rfl ?_
          refine R_aload_n X 1 dX10_drive_53 rfl rfl ?_
          refine R_getR X (j := 0) 1 216 lc_215 rfl inX10 (by decide) rfl rfl (by decide) rfl rfl wf_X10_7 dX10_drive_54 ?_
          refine R_sipush X dX10_drive_57 (by decide +kernel) ?_
          refine R_iload_n X 4 dX10_drive_60 rfl rfl ?_
          refine R_iadd X dX10_drive_61 ?_
          obtain ⟨hq15, hf⟩ := zgrd hf
          refine R_iald X lc_216 hq15 dX10_drive_62 ?_
          obtain ⟨r16, M17, hc18, hf⟩ := zbnd_some hf
          refine R_callVi X (av := [.int (zI (M12 216 (416 + v3).toNat))]) (rest := []) (c_X10_distanceOf l D cas ad hi hc18) zy_X10_distanceOf lc_215 rfl rfl wm_X10_92 rfl rfl ⟨Nat.le_of_ble_eq_true rfl, Nat.le_of_ble_eq_true rfl⟩ ⟨Nat.le_refl _, Nat.le_refl _⟩ (Nat.le_of_ble_eq_true rfl) dX10_drive_63 ?_
          refine R_aload_n X 1 dX10_drive_66 rfl rfl ?_
          refine R_iload X 0 dX10_drive_67 rfl ?_
          obtain ⟨r19, M20, hc21, hf⟩ := zbnd_some hf
          refine R_callVi X (av := [.int (zI r11)]) (rest := [.int (zI r16)]) (c_X10_distanceOf l D cas ad hi hc21) zy_X10_distanceOf lc_215 rfl rfl wm_X10_92 rfl rfl ⟨Nat.le_of_ble_eq_true rfl, Nat.le_of_ble_eq_true rfl⟩ ⟨Nat.le_refl _, Nat.le_refl _⟩ (Nat.le_of_ble_eq_true rfl) dX10_drive_69 ?_
          refine R_isub X dX10_drive_72 ?_
          refine R_aload_n X 1 dX10_drive_73 rfl rfl ?_
          refine R_getR X (j := 0) 1 216 lc_215 rfl inX10 (by decide) rfl rfl (by decide) rfl rfl wf_X10_7 dX10_drive_74 ?_
          refine R_sipush X dX10_drive_77 (by decide +kernel) ?_
          refine R_iald X lc_216 (by decide) dX10_drive_80 ?_
          obtain ⟨hq22, hf⟩ := zgrd hf
          obtain ⟨hq23, hf⟩ := zgrd hf
          refine R_icmp_lt X 94 ⟨hq22, hq23⟩ dX10_drive_81 (by decide) (fun c27 => ?_) (fun c27 => ?_)
          · have hf := zthen hf c27
            exact R_sub [1, 2, 3] rfl (hB94 g11 hg11 v1 v2 M20 hf)
          · have hf := zelse hf c27
            refine R_aload_n X 1 dX10_drive_84 rfl rfl ?_
            refine R_iload_n X 4 dX10_drive_85 rfl rfl ?_
            refine R_iload X 0 dX10_drive_86 rfl ?_
            obtain ⟨r24, M25, hc26, hf⟩ := zbnd_some hf
            refine R_callVv X (av := [.int (zI v3), .int (zI r11)]) (rest := []) (c_X10_go l D cas ad hi hc26) zy_X10_go lc_215 rfl rfl wm_X10_77 rfl rfl ⟨Nat.le_of_ble_eq_true rfl, Nat.le_of_ble_eq_true rfl⟩ ⟨Nat.le_refl _, Nat.le_refl _⟩ (Nat.le_of_ble_eq_true rfl) dX10_drive_88 ?_
            refine R_iinc X (lv' := [(1, .int (zI (v1 + (-1)))), (4, .int (zI r11)), (0, .ref (ad 215)), (2, .int (zI v2)), (3, .int (zI v3))]) 2 dX10_drive_91 rfl (by decide) rfl ?_
            exact R_sub [2, 0, 3] rfl (hB94 g11 hg11 (v1 + (-1)) v2 M25 hf)
      · have hf := zelse hf c29
        refine R_iinc X (lv' := [(3, .int (zI (v3 + 1))), (0, .ref (ad 215)), (1, .int (zI v1)), (2, .int (zI v2))]) 3 dX10_drive_32 rfl (by decide) rfl ?_
        refine R_goto X 23 dX10_drive_35 (by decide) ?_
        exact R_sub [1, 2, 3, 0] rfl (ih v1 v2 (v3 + 1) M7 hf)
  have hB100 : ∀ (M : Mem), f_X10_drive_b100 M = some (r, M') → WW p l e (zrm 3 67) s m args below meth c D cas ad (zA ad) 5 0 0 (MQ below (zQv D cas ad M') args s 0 0 (zA ad)) 100 [] [] M := by
    intro M hf
    unfold f_X10_drive_b100 at hf
    exact R_vret X hr hk0 dX10_drive_100 hf
  have hB11 : ∀ (n : Nat) (v1 v2 : Int) (M : Mem), f_X10_drive_b11 n v1 v2 M = some (r, M') → WW p l e (zrm 3 67) s m args below meth c D cas ad (zA ad) 5 0 0 (MQ below (zQv D cas ad M') args s 0 0 (zA ad)) 11 [(0, .ref (ad 215)), (1, .int (zI v1)), (2, .int (zI v2))] [] M := by
    intro n
    induction n with
    | zero => intro v1 v2 M hf; exact absurd hf (by unfold f_X10_drive_b11; simp)
    | succ n ih =>
      intro v1 v2 M hf
      unfold f_X10_drive_b11 at hf
      refine R_iload_n X 2 dX10_drive_11 rfl rfl ?_
      refine R_bipush X dX10_drive_12 (by decide +kernel) ?_
      obtain ⟨hq2, hf⟩ := zgrd hf
      refine R_icmp_ge X 100 ⟨hq2, (by decide)⟩ dX10_drive_14 (by decide) (fun c5 => ?_) (fun c5 => ?_)
      · have hf := zthen hf c5
        exact R_sub [] rfl (hB100 M hf)
      · have hf := zelse hf c5
        refine R_iload_n X 1 dX10_drive_17 rfl rfl ?_
        obtain ⟨hq3, hf⟩ := zgrd hf
        refine R_if_le X 100 hq3 dX10_drive_18 (by decide) (fun c4 => ?_) (fun c4 => ?_)
        · have hf := zthen hf c4
          exact R_sub [] rfl (hB100 M hf)
        · have hf := zelse hf c4
          refine R_iconst X dX10_drive_21 ?_
          refine R_istore_n X (lv' := [(3, .int (zI 0)), (0, .ref (ad 215)), (1, .int (zI v1)), (2, .int (zI v2))]) dX10_drive_22 rfl (by decide) rfl ?_
          exact R_sub [1, 2, 3, 0] rfl (hB23 (f_X10_drive_b11 n) ih 100000 v1 v2 0 M hf)
  unfold f_X10_drive at hf
  refine (?_ : WW p l e (zrm 3 67) s m args below meth c D cas ad (zA ad) 5 0 0 (MQ below (zQv D cas ad M') args s 0 0 (zA ad)) 0 [(0, .ref (ad 215))] [] M)
  refine R_aload_n X 0 dX10_drive_0 rfl rfl ?_
  refine R_getR X (j := 0) 1 216 lc_215 rfl inX10 (by decide) rfl rfl (by decide) rfl rfl wf_X10_7 dX10_drive_1 ?_
  refine R_sipush X dX10_drive_4 (by decide +kernel) ?_
  refine R_iald X lc_216 (by decide) dX10_drive_7 ?_
  obtain ⟨x1, ex1, hf⟩ := zlt_some hf
  refine R_istore_nX X (lv' := [(1, .int (zI x1)), (0, .ref (ad 215))]) ex1 dX10_drive_8 rfl (by decide) rfl ?_
  refine R_iconst X dX10_drive_9 ?_
  refine R_istore_n X (lv' := [(2, .int (zI 0)), (1, .int (zI x1)), (0, .ref (ad 215))]) dX10_drive_10 rfl (by decide) rfl ?_
  exact R_sub [2, 1, 0] rfl (hB11 100000 x1 0 M hf)
theorem dX10_driveWolf_0 : decode cX10_driveWolf 0 = .ok (.aload_n 0, 1) := by decide +kernel
theorem dX10_driveWolf_1 : decode cX10_driveWolf 1 = .ok (.getfield 7, 3) := by decide +kernel
theorem dX10_driveWolf_4 : decode cX10_driveWolf 4 = .ok (.sipush 864, 3) := by decide +kernel
theorem dX10_driveWolf_7 : decode cX10_driveWolf 7 = .ok (.iaload, 1) := by decide +kernel
theorem dX10_driveWolf_8 : decode cX10_driveWolf 8 = .ok (.ifCond .ne 6, 3) := by decide +kernel
theorem dX10_driveWolf_11 : decode cX10_driveWolf 11 = .ok (.bipush (-5), 2) := by decide +kernel
theorem dX10_driveWolf_13 : decode cX10_driveWolf 13 = .ok (.ireturn, 1) := by decide +kernel
theorem dX10_driveWolf_14 : decode cX10_driveWolf 14 = .ok (.aload_n 0, 1) := by decide +kernel
theorem dX10_driveWolf_15 : decode cX10_driveWolf 15 = .ok (.invokevirtual 31, 3) := by decide +kernel
theorem dX10_driveWolf_18 : decode cX10_driveWolf 18 = .ok (.aload_n 0, 1) := by decide +kernel
theorem dX10_driveWolf_19 : decode cX10_driveWolf 19 = .ok (.getfield 7, 3) := by decide +kernel
theorem dX10_driveWolf_22 : decode cX10_driveWolf 22 = .ok (.sipush 864, 3) := by decide +kernel
theorem dX10_driveWolf_25 : decode cX10_driveWolf 25 = .ok (.dup2, 1) := by decide +kernel
theorem dX10_driveWolf_26 : decode cX10_driveWolf 26 = .ok (.iaload, 1) := by decide +kernel
theorem dX10_driveWolf_27 : decode cX10_driveWolf 27 = .ok (.iconst 1, 1) := by decide +kernel
theorem dX10_driveWolf_28 : decode cX10_driveWolf 28 = .ok (.isub, 1) := by decide +kernel
theorem dX10_driveWolf_29 : decode cX10_driveWolf 29 = .ok (.iastore, 1) := by decide +kernel
theorem dX10_driveWolf_30 : decode cX10_driveWolf 30 = .ok (.aload_n 0, 1) := by decide +kernel
theorem dX10_driveWolf_31 : decode cX10_driveWolf 31 = .ok (.getfield 7, 3) := by decide +kernel
theorem dX10_driveWolf_34 : decode cX10_driveWolf 34 = .ok (.sipush 864, 3) := by decide +kernel
theorem dX10_driveWolf_37 : decode cX10_driveWolf 37 = .ok (.iaload, 1) := by decide +kernel
theorem dX10_driveWolf_38 : decode cX10_driveWolf 38 = .ok (.ireturn, 1) := by decide +kernel
set_option maxRecDepth 100000 in
set_option maxHeartbeats 4000000 in
theorem c_X10_driveWolf (l : Launch) (D : va_G) (cas : Nat → ClassId) (ad : Nat → Nat) (hi : zInj ad)   {r : Int} {M M' : Mem} (hf : f_X10_driveWolf M = some (r, M')) : zMi l D cas ad yX10_driveWolf cX10_driveWolf 1 (some .int) 2 44 [.ref (ad 215)] M r M' := by
  refine zbody (by decide) (Nat.le_of_ble_eq_true rfl) hi ?_
  intro p e s m args below meth c X hr hk0
  have X : zX p s m args c cX10_driveWolf "ShardTrailsModel" 1 D cas ad (zA ad) := X
  unfold f_X10_driveWolf at hf
  refine (?_ : WW p l e (zrm 2 44) s m args below meth c D cas ad (zA ad) 1 0 0 (MQ below (zQi D cas ad r M') args s 0 0 (zA ad)) 0 [(0, .ref (ad 215))] [] M)
  refine R_aload_n X 0 dX10_driveWolf_0 rfl rfl ?_
  refine R_getR X (j := 0) 1 216 lc_215 rfl inX10 (by decide) rfl rfl (by decide) rfl rfl wf_X10_7 dX10_driveWolf_1 ?_
  refine R_sipush X dX10_driveWolf_4 (by decide +kernel) ?_
  refine R_iald X lc_216 (by decide) dX10_driveWolf_7 ?_
  obtain ⟨hq1, hf⟩ := zgrd hf
  refine R_if_ne X 14 hq1 dX10_driveWolf_8 (by decide) (fun c6 => ?_) (fun c6 => ?_)
  · have hf := zelse hf c6
    refine R_aload_n X 0 dX10_driveWolf_14 rfl rfl ?_
    obtain ⟨r2, M3, hc4, hf⟩ := zbnd_some hf
    refine R_callVv X (av := []) (rest := []) (c_X10_record l D cas ad hi hc4) zy_X10_record lc_215 rfl rfl wm_X10_31 rfl rfl ⟨Nat.le_of_ble_eq_true rfl, Nat.le_of_ble_eq_true rfl⟩ ⟨Nat.le_refl _, Nat.le_refl _⟩ (Nat.le_of_ble_eq_true rfl) dX10_driveWolf_15 ?_
    refine R_aload_n X 0 dX10_driveWolf_18 rfl rfl ?_
    refine R_getR X (j := 0) 1 216 lc_215 rfl inX10 (by decide) rfl rfl (by decide) rfl rfl wf_X10_7 dX10_driveWolf_19 ?_
    refine R_sipush X dX10_driveWolf_22 (by decide +kernel) ?_
    refine R_dup2 X dX10_driveWolf_25 rfl rfl ?_
    refine R_iald X lc_216 (by decide) dX10_driveWolf_26 ?_
    refine R_iconst X dX10_driveWolf_27 ?_
    refine R_isub X dX10_driveWolf_28 ?_
    obtain ⟨M5, eM5, hf⟩ := zlt_some hf
    refine R_iast X lc_216 (by decide) dX10_driveWolf_29 ?_
    refine R_mem eM5 ?_
    refine R_aload_n X 0 dX10_driveWolf_30 rfl rfl ?_
    refine R_getR X (j := 0) 1 216 lc_215 rfl inX10 (by decide) rfl rfl (by decide) rfl rfl wf_X10_7 dX10_driveWolf_31 ?_
    refine R_sipush X dX10_driveWolf_34 (by decide +kernel) ?_
    refine R_iald X lc_216 (by decide) dX10_driveWolf_37 ?_
    exact R_iret X hr hk0 dX10_driveWolf_38 hf
  · have hf := zthen hf c6
    refine R_bipush X dX10_driveWolf_11 (by decide +kernel) ?_
    exact R_iret X hr hk0 dX10_driveWolf_13 hf
theorem dX10_read_0 : decode cX10_read 0 = .ok (.aload_n 0, 1) := by decide +kernel
theorem dX10_read_1 : decode cX10_read 1 = .ok (.getfield 159, 3) := by decide +kernel
theorem dX10_read_4 : decode cX10_read 4 = .ok (.ifCond .eq 11, 3) := by decide +kernel
theorem dX10_read_7 : decode cX10_read 7 = .ok (.aload_n 0, 1) := by decide +kernel
theorem dX10_read_8 : decode cX10_read 8 = .ok (.getfield 159, 3) := by decide +kernel
theorem dX10_read_11 : decode cX10_read 11 = .ok (.iconst 1, 1) := by decide +kernel
theorem dX10_read_12 : decode cX10_read 12 = .ok (.if_icmp .ne 45, 3) := by decide +kernel
theorem dX10_read_15 : decode cX10_read 15 = .ok (.aload_n 0, 1) := by decide +kernel
theorem dX10_read_16 : decode cX10_read 16 = .ok (.getfield 159, 3) := by decide +kernel
theorem dX10_read_19 : decode cX10_read 19 = .ok (.ifCond .ne 14, 3) := by decide +kernel
theorem dX10_read_22 : decode cX10_read 22 = .ok (.iload_n 1, 1) := by decide +kernel
theorem dX10_read_23 : decode cX10_read 23 = .ok (.bipush 48, 2) := by decide +kernel
theorem dX10_read_25 : decode cX10_read 25 = .ok (.bipush 53, 2) := by decide +kernel
theorem dX10_read_27 : decode cX10_read 27 = .ok (.invokestatic 34, 3) := by decide +kernel
theorem dX10_read_30 : decode cX10_read 30 = .ok (.goto 14, 3) := by decide +kernel
theorem dX10_read_33 : decode cX10_read 33 = .ok (.iload_n 1, 1) := by decide +kernel
theorem dX10_read_34 : decode cX10_read 34 = .ok (.bipush 58, 2) := by decide +kernel
theorem dX10_read_36 : decode cX10_read 36 = .ok (.if_icmp .ne 7, 3) := by decide +kernel
theorem dX10_read_39 : decode cX10_read 39 = .ok (.iconst 1, 1) := by decide +kernel
theorem dX10_read_40 : decode cX10_read 40 = .ok (.goto 4, 3) := by decide +kernel
theorem dX10_read_43 : decode cX10_read 43 = .ok (.iconst 0, 1) := by decide +kernel
theorem dX10_read_44 : decode cX10_read 44 = .ok (.istore_n 2, 1) := by decide +kernel
theorem dX10_read_45 : decode cX10_read 45 = .ok (.aload_n 0, 1) := by decide +kernel
theorem dX10_read_46 : decode cX10_read 46 = .ok (.aload_n 0, 1) := by decide +kernel
theorem dX10_read_47 : decode cX10_read 47 = .ok (.getfield 159, 3) := by decide +kernel
theorem dX10_read_50 : decode cX10_read 50 = .ok (.iconst 1, 1) := by decide +kernel
theorem dX10_read_51 : decode cX10_read 51 = .ok (.iadd, 1) := by decide +kernel
theorem dX10_read_52 : decode cX10_read 52 = .ok (.invokevirtual 168, 3) := by decide +kernel
theorem dX10_read_55 : decode cX10_read 55 = .ok (.iload_n 2, 1) := by decide +kernel
theorem dX10_read_56 : decode cX10_read 56 = .ok (.ireturn, 1) := by decide +kernel
theorem dX10_read_57 : decode cX10_read 57 = .ok (.iload_n 1, 1) := by decide +kernel
theorem dX10_read_58 : decode cX10_read 58 = .ok (.bipush 48, 2) := by decide +kernel
theorem dX10_read_60 : decode cX10_read 60 = .ok (.bipush 57, 2) := by decide +kernel
theorem dX10_read_62 : decode cX10_read 62 = .ok (.invokestatic 34, 3) := by decide +kernel
theorem dX10_read_65 : decode cX10_read 65 = .ok (.ifCond .eq 63, 3) := by decide +kernel
theorem dX10_read_68 : decode cX10_read 68 = .ok (.aload_n 0, 1) := by decide +kernel
theorem dX10_read_69 : decode cX10_read 69 = .ok (.getfield 165, 3) := by decide +kernel
theorem dX10_read_72 : decode cX10_read 72 = .ok (.ifCond .ne 20, 3) := by decide +kernel
theorem dX10_read_75 : decode cX10_read 75 = .ok (.aload_n 0, 1) := by decide +kernel
theorem dX10_read_76 : decode cX10_read 76 = .ok (.getfield 162, 3) := by decide +kernel
theorem dX10_read_79 : decode cX10_read 79 = .ok (.aload_n 0, 1) := by decide +kernel
theorem dX10_read_80 : decode cX10_read 80 = .ok (.getfield 159, 3) := by decide +kernel
theorem dX10_read_83 : decode cX10_read 83 = .ok (.iconst 1, 1) := by decide +kernel
theorem dX10_read_84 : decode cX10_read 84 = .ok (.iadd, 1) := by decide +kernel
theorem dX10_read_85 : decode cX10_read 85 = .ok (.if_icmp .ge 7, 3) := by decide +kernel
theorem dX10_read_88 : decode cX10_read 88 = .ok (.iconst 1, 1) := by decide +kernel
theorem dX10_read_89 : decode cX10_read 89 = .ok (.goto 4, 3) := by decide +kernel
theorem dX10_read_92 : decode cX10_read 92 = .ok (.iconst 0, 1) := by decide +kernel
theorem dX10_read_93 : decode cX10_read 93 = .ok (.istore_n 2, 1) := by decide +kernel
theorem dX10_read_94 : decode cX10_read 94 = .ok (.aload_n 0, 1) := by decide +kernel
theorem dX10_read_95 : decode cX10_read 95 = .ok (.aload_n 0, 1) := by decide +kernel
theorem dX10_read_96 : decode cX10_read 96 = .ok (.getfield 162, 3) := by decide +kernel
theorem dX10_read_99 : decode cX10_read 99 = .ok (.ifCond .ne 13, 3) := by decide +kernel
theorem dX10_read_102 : decode cX10_read 102 = .ok (.iload_n 1, 1) := by decide +kernel
theorem dX10_read_103 : decode cX10_read 103 = .ok (.bipush 48, 2) := by decide +kernel
theorem dX10_read_105 : decode cX10_read 105 = .ok (.if_icmp .ne 7, 3) := by decide +kernel
theorem dX10_read_108 : decode cX10_read 108 = .ok (.iconst 1, 1) := by decide +kernel
theorem dX10_read_109 : decode cX10_read 109 = .ok (.goto 4, 3) := by decide +kernel
theorem dX10_read_112 : decode cX10_read 112 = .ok (.iconst 0, 1) := by decide +kernel
theorem dX10_read_113 : decode cX10_read 113 = .ok (.putfield 165, 3) := by decide +kernel
theorem dX10_read_116 : decode cX10_read 116 = .ok (.aload_n 0, 1) := by decide +kernel
theorem dX10_read_117 : decode cX10_read 117 = .ok (.dup, 1) := by decide +kernel
theorem dX10_read_118 : decode cX10_read 118 = .ok (.getfield 162, 3) := by decide +kernel
theorem dX10_read_121 : decode cX10_read 121 = .ok (.iconst 1, 1) := by decide +kernel
theorem dX10_read_122 : decode cX10_read 122 = .ok (.iadd, 1) := by decide +kernel
theorem dX10_read_123 : decode cX10_read 123 = .ok (.putfield 162, 3) := by decide +kernel
theorem dX10_read_126 : decode cX10_read 126 = .ok (.iload_n 2, 1) := by decide +kernel
theorem dX10_read_127 : decode cX10_read 127 = .ok (.ireturn, 1) := by decide +kernel
theorem dX10_read_128 : decode cX10_read 128 = .ok (.aload_n 0, 1) := by decide +kernel
theorem dX10_read_129 : decode cX10_read 129 = .ok (.getfield 162, 3) := by decide +kernel
theorem dX10_read_132 : decode cX10_read 132 = .ok (.ifCond .le 27, 3) := by decide +kernel
theorem dX10_read_135 : decode cX10_read 135 = .ok (.iload_n 1, 1) := by decide +kernel
theorem dX10_read_136 : decode cX10_read 136 = .ok (.bipush 44, 2) := by decide +kernel
theorem dX10_read_138 : decode cX10_read 138 = .ok (.if_icmp .eq 17, 3) := by decide +kernel
theorem dX10_read_141 : decode cX10_read 141 = .ok (.iload_n 1, 1) := by decide +kernel
theorem dX10_read_142 : decode cX10_read 142 = .ok (.bipush 61, 2) := by decide +kernel
theorem dX10_read_144 : decode cX10_read 144 = .ok (.if_icmp .ne 15, 3) := by decide +kernel
theorem dX10_read_147 : decode cX10_read 147 = .ok (.aload_n 0, 1) := by decide +kernel
theorem dX10_read_148 : decode cX10_read 148 = .ok (.getfield 159, 3) := by decide +kernel
theorem dX10_read_151 : decode cX10_read 151 = .ok (.iconst 2, 1) := by decide +kernel
theorem dX10_read_152 : decode cX10_read 152 = .ok (.if_icmp .ne 7, 3) := by decide +kernel
theorem dX10_read_155 : decode cX10_read 155 = .ok (.iconst 1, 1) := by decide +kernel
theorem dX10_read_156 : decode cX10_read 156 = .ok (.goto 4, 3) := by decide +kernel
theorem dX10_read_159 : decode cX10_read 159 = .ok (.iconst 0, 1) := by decide +kernel
theorem dX10_read_160 : decode cX10_read 160 = .ok (.istore_n 2, 1) := by decide +kernel
theorem dX10_read_161 : decode cX10_read 161 = .ok (.aload_n 0, 1) := by decide +kernel
theorem dX10_read_162 : decode cX10_read 162 = .ok (.iload_n 1, 1) := by decide +kernel
theorem dX10_read_163 : decode cX10_read 163 = .ok (.bipush 61, 2) := by decide +kernel
theorem dX10_read_165 : decode cX10_read 165 = .ok (.if_icmp .ne 7, 3) := by decide +kernel
theorem dX10_read_168 : decode cX10_read 168 = .ok (.iconst 3, 1) := by decide +kernel
theorem dX10_read_169 : decode cX10_read 169 = .ok (.goto 4, 3) := by decide +kernel
theorem dX10_read_172 : decode cX10_read 172 = .ok (.iconst 0, 1) := by decide +kernel
theorem dX10_read_173 : decode cX10_read 173 = .ok (.invokevirtual 168, 3) := by decide +kernel
theorem dX10_read_176 : decode cX10_read 176 = .ok (.iload_n 2, 1) := by decide +kernel
theorem dX10_read_177 : decode cX10_read 177 = .ok (.ireturn, 1) := by decide +kernel
set_option maxRecDepth 100000 in
set_option maxHeartbeats 4000000 in
theorem c_X10_read (l : Launch) (D : va_G) (cas : Nat → ClassId) (ad : Nat → Nat) (hi : zInj ad) {v1 : Int}  {r : Int} {M M' : Mem} (hf : f_X10_read v1 M = some (r, M')) : zMi l D cas ad yX10_read cX10_read 3 (some .boolean) 1 22 [.ref (ad 215), .int (zI v1)] M r M' := by
  refine zbody (by decide) (Nat.le_of_ble_eq_true rfl) hi ?_
  intro p e s m args below meth c X hr hk0
  have X : zX p s m args c cX10_read "ShardTrailsModel" 3 D cas ad (zA ad) := X
  have hB44 : ∀ (t1 : Int) (M : Mem), f_X10_read_b44 t1 M = some (r, M') → WW p l e (zrm 1 22) s m args below meth c D cas ad (zA ad) 3 0 0 (MQ below (zQi D cas ad r M') args s 0 0 (zA ad)) 44 [(0, .ref (ad 215))] [.int (zI t1)] M := by
    intro t1 M hf
    unfold f_X10_read_b44 at hf
    refine R_istore_n X (lv' := [(2, .int (zI t1)), (0, .ref (ad 215))]) dX10_read_44 rfl (by decide) rfl ?_
    refine R_aload_n X 1 dX10_read_45 rfl rfl ?_
    refine R_aload_n X 1 dX10_read_46 rfl rfl ?_
    refine R_getI X (j := 12) lc_215 rfl inX10 (by decide) rfl rfl rfl wf_X10_159 dX10_read_47 ?_
    refine R_iconst X dX10_read_50 ?_
    refine R_iadd X dX10_read_51 ?_
    obtain ⟨r32, M33, hc34, hf⟩ := zbnd_some hf
    refine R_callVv X (av := [.int (zI ((M 215 12) + 1))]) (rest := []) (c_X10_begin l D cas ad hi hc34) zy_X10_begin lc_215 rfl rfl wm_X10_168 rfl rfl ⟨Nat.le_of_ble_eq_true rfl, Nat.le_of_ble_eq_true rfl⟩ ⟨Nat.le_refl _, Nat.le_refl _⟩ (Nat.le_of_ble_eq_true rfl) dX10_read_52 ?_
    refine R_iload_n X 0 dX10_read_55 rfl rfl ?_
    obtain ⟨hq35, hf⟩ := zgrd hf
    exact R_zret X hq35 hr hk0 dX10_read_56 hf
  have hB15 : ∀ (v1 : Int) (M : Mem), f_X10_read_b15 v1 M = some (r, M') → WW p l e (zrm 1 22) s m args below meth c D cas ad (zA ad) 3 0 0 (MQ below (zQi D cas ad r M') args s 0 0 (zA ad)) 15 [(0, .ref (ad 215)), (1, .int (zI v1))] [] M := by
    intro v1 M hf
    unfold f_X10_read_b15 at hf
    refine R_aload_n X 0 dX10_read_15 rfl rfl ?_
    refine R_getI X (j := 12) lc_215 rfl inX10 (by decide) rfl rfl rfl wf_X10_159 dX10_read_16 ?_
    obtain ⟨hq21, hf⟩ := zgrd hf
    refine R_if_ne X 33 hq21 dX10_read_19 (by decide) (fun c27 => ?_) (fun c27 => ?_)
    · have hf := zelse hf c27
      refine R_iload_n X 1 dX10_read_33 rfl rfl ?_
      refine R_bipush X dX10_read_34 (by decide +kernel) ?_
      obtain ⟨hq22, hf⟩ := zgrd hf
      refine R_icmp_ne X 43 ⟨hq22, (by decide)⟩ dX10_read_36 (by decide) (fun c23 => ?_) (fun c23 => ?_)
      · have hf := zelse hf c23
        refine R_iconst X dX10_read_43 ?_
        exact R_sub [0] rfl (hB44 0 M hf)
      · have hf := zthen hf c23
        refine R_iconst X dX10_read_39 ?_
        refine R_goto X 44 dX10_read_40 (by decide) ?_
        exact R_sub [0] rfl (hB44 1 M hf)
    · have hf := zthen hf c27
      refine R_iload_n X 1 dX10_read_22 rfl rfl ?_
      refine R_bipush X dX10_read_23 (by decide +kernel) ?_
      refine R_bipush X dX10_read_25 (by decide +kernel) ?_
      obtain ⟨r24, M25, hc26, hf⟩ := zbnd_some hf
      refine R_callSi X (av := [.int (zI v1), .int (zI 48), .int (zI 53)]) (rest := []) (c_X10_in l D cas ad hi hc26) zy_X10_in wm_X10_34 rfl rfl ⟨Nat.le_of_ble_eq_true rfl, Nat.le_of_ble_eq_true rfl⟩ ⟨Nat.le_refl _, Nat.le_refl _⟩ (Nat.le_of_ble_eq_true rfl) dX10_read_27 ?_
      refine R_goto X 44 dX10_read_30 (by decide) ?_
      exact R_sub [0] rfl (hB44 r24 M25 hf)
  have hB113 : ∀ (v2 t2 : Int) (M : Mem), f_X10_read_b113 v2 t2 M = some (r, M') → WW p l e (zrm 1 22) s m args below meth c D cas ad (zA ad) 3 0 0 (MQ below (zQi D cas ad r M') args s 0 0 (zA ad)) 113 [(0, .ref (ad 215)), (2, .int (zI v2))] [.int (zI t2), .ref (ad 215)] M := by
    intro v2 t2 M hf
    unfold f_X10_read_b113 at hf
    obtain ⟨hq38, hf⟩ := zgrd hf
    obtain ⟨M39, eM39, hf⟩ := zlt_some hf
    refine R_put X (j := 14) lc_215 rfl inX10 tyX10_ok nmX10 (by decide) rfl rfl rfl wf_X10_165 rfl (by decide +kernel) (z_nZ hq38) (z_fZ hq38) dX10_read_113 ?_
    refine R_mem eM39 ?_
    refine R_aload_n X 0 dX10_read_116 rfl rfl ?_
    refine R_dup X dX10_read_117 rfl ?_
    refine R_getI X (j := 13) lc_215 rfl inX10 (by decide) rfl rfl rfl wf_X10_162 dX10_read_118 ?_
    refine R_iconst X dX10_read_121 ?_
    refine R_iadd X dX10_read_122 ?_
    obtain ⟨M40, eM40, hf⟩ := zlt_some hf
    refine R_put X (j := 13) lc_215 rfl inX10 tyX10_ok nmX10 (by decide) rfl rfl rfl wf_X10_162 rfl (by decide +kernel) (z_nI _) (z_fI _) dX10_read_123 ?_
    refine R_mem eM40 ?_
    refine R_iload_n X 1 dX10_read_126 rfl rfl ?_
    obtain ⟨hq41, hf⟩ := zgrd hf
    exact R_zret X hq41 hr hk0 dX10_read_127 hf
  have hB112 : ∀ (v2 : Int) (M : Mem), f_X10_read_b112 v2 M = some (r, M') → WW p l e (zrm 1 22) s m args below meth c D cas ad (zA ad) 3 0 0 (MQ below (zQi D cas ad r M') args s 0 0 (zA ad)) 112 [(0, .ref (ad 215)), (2, .int (zI v2))] [.ref (ad 215)] M := by
    intro v2 M hf
    unfold f_X10_read_b112 at hf
    refine R_iconst X dX10_read_112 ?_
    exact R_sub [0, 1] rfl (hB113 v2 0 M hf)
  have hB93 : ∀ (v1 t1 : Int) (M : Mem), f_X10_read_b93 v1 t1 M = some (r, M') → WW p l e (zrm 1 22) s m args below meth c D cas ad (zA ad) 3 0 0 (MQ below (zQi D cas ad r M') args s 0 0 (zA ad)) 93 [(0, .ref (ad 215)), (1, .int (zI v1))] [.int (zI t1)] M := by
    intro v1 t1 M hf
    unfold f_X10_read_b93 at hf
    refine R_istore_n X (lv' := [(2, .int (zI t1)), (0, .ref (ad 215)), (1, .int (zI v1))]) dX10_read_93 rfl (by decide) rfl ?_
    refine R_aload_n X 1 dX10_read_94 rfl rfl ?_
    refine R_aload_n X 1 dX10_read_95 rfl rfl ?_
    refine R_getI X (j := 13) lc_215 rfl inX10 (by decide) rfl rfl rfl wf_X10_162 dX10_read_96 ?_
    obtain ⟨hq28, hf⟩ := zgrd hf
    refine R_if_ne X 112 hq28 dX10_read_99 (by decide) (fun c31 => ?_) (fun c31 => ?_)
    · have hf := zelse hf c31
      exact R_sub [1, 0] rfl (hB112 t1 M hf)
    · have hf := zthen hf c31
      refine R_iload_n X 2 dX10_read_102 rfl rfl ?_
      refine R_bipush X dX10_read_103 (by decide +kernel) ?_
      obtain ⟨hq29, hf⟩ := zgrd hf
      refine R_icmp_ne X 112 ⟨hq29, (by decide)⟩ dX10_read_105 (by decide) (fun c30 => ?_) (fun c30 => ?_)
      · have hf := zelse hf c30
        exact R_sub [1, 0] rfl (hB112 t1 M hf)
      · have hf := zthen hf c30
        refine R_iconst X dX10_read_108 ?_
        refine R_goto X 113 dX10_read_109 (by decide) ?_
        exact R_sub [1, 0] rfl (hB113 t1 1 M hf)
  have hB92 : ∀ (v1 : Int) (M : Mem), f_X10_read_b92 v1 M = some (r, M') → WW p l e (zrm 1 22) s m args below meth c D cas ad (zA ad) 3 0 0 (MQ below (zQi D cas ad r M') args s 0 0 (zA ad)) 92 [(0, .ref (ad 215)), (1, .int (zI v1))] [] M := by
    intro v1 M hf
    unfold f_X10_read_b92 at hf
    refine R_iconst X dX10_read_92 ?_
    exact R_sub [0, 1] rfl (hB93 v1 0 M hf)
  have hB173 : ∀ (v2 t2 : Int) (M : Mem), f_X10_read_b173 v2 t2 M = some (r, M') → WW p l e (zrm 1 22) s m args below meth c D cas ad (zA ad) 3 0 0 (MQ below (zQi D cas ad r M') args s 0 0 (zA ad)) 173 [(2, .int (zI v2))] [.int (zI t2), .ref (ad 215)] M := by
    intro v2 t2 M hf
    unfold f_X10_read_b173 at hf
    obtain ⟨r42, M43, hc44, hf⟩ := zbnd_some hf
    refine R_callVv X (av := [.int (zI t2)]) (rest := []) (c_X10_begin l D cas ad hi hc44) zy_X10_begin lc_215 rfl rfl wm_X10_168 rfl rfl ⟨Nat.le_of_ble_eq_true rfl, Nat.le_of_ble_eq_true rfl⟩ ⟨Nat.le_refl _, Nat.le_refl _⟩ (Nat.le_of_ble_eq_true rfl) dX10_read_173 ?_
    refine R_iload_n X 0 dX10_read_176 rfl rfl ?_
    obtain ⟨hq45, hf⟩ := zgrd hf
    exact R_zret X hq45 hr hk0 dX10_read_177 hf
  have hB160 : ∀ (v1 t1 : Int) (M : Mem), f_X10_read_b160 v1 t1 M = some (r, M') → WW p l e (zrm 1 22) s m args below meth c D cas ad (zA ad) 3 0 0 (MQ below (zQi D cas ad r M') args s 0 0 (zA ad)) 160 [(0, .ref (ad 215)), (1, .int (zI v1))] [.int (zI t1)] M := by
    intro v1 t1 M hf
    unfold f_X10_read_b160 at hf
    refine R_istore_n X (lv' := [(2, .int (zI t1)), (0, .ref (ad 215)), (1, .int (zI v1))]) dX10_read_160 rfl (by decide) rfl ?_
    refine R_aload_n X 1 dX10_read_161 rfl rfl ?_
    refine R_iload_n X 2 dX10_read_162 rfl rfl ?_
    refine R_bipush X dX10_read_163 (by decide +kernel) ?_
    obtain ⟨hq36, hf⟩ := zgrd hf
    refine R_icmp_ne X 172 ⟨hq36, (by decide)⟩ dX10_read_165 (by decide) (fun c37 => ?_) (fun c37 => ?_)
    · have hf := zelse hf c37
      refine R_iconst X dX10_read_172 ?_
      exact R_sub [0] rfl (hB173 t1 0 M hf)
    · have hf := zthen hf c37
      refine R_iconst X dX10_read_168 ?_
      refine R_goto X 173 dX10_read_169 (by decide) ?_
      exact R_sub [0] rfl (hB173 t1 3 M hf)
  have hB155 : ∀ (v1 : Int) (M : Mem), f_X10_read_b155 v1 M = some (r, M') → WW p l e (zrm 1 22) s m args below meth c D cas ad (zA ad) 3 0 0 (MQ below (zQi D cas ad r M') args s 0 0 (zA ad)) 155 [(0, .ref (ad 215)), (1, .int (zI v1))] [] M := by
    intro v1 M hf
    unfold f_X10_read_b155 at hf
    refine R_iconst X dX10_read_155 ?_
    refine R_goto X 160 dX10_read_156 (by decide) ?_
    exact R_sub [0, 1] rfl (hB160 v1 1 M hf)
  have hB159 : ∀ (v1 : Int) (M : Mem), f_X10_read_b159 v1 M = some (r, M') → WW p l e (zrm 1 22) s m args below meth c D cas ad (zA ad) 3 0 0 (MQ below (zQi D cas ad r M') args s 0 0 (zA ad)) 159 [(0, .ref (ad 215)), (1, .int (zI v1))] [] M := by
    intro v1 M hf
    unfold f_X10_read_b159 at hf
    refine R_iconst X dX10_read_159 ?_
    exact R_sub [0, 1] rfl (hB160 v1 0 M hf)
  unfold f_X10_read at hf
  refine (?_ : WW p l e (zrm 1 22) s m args below meth c D cas ad (zA ad) 3 0 0 (MQ below (zQi D cas ad r M') args s 0 0 (zA ad)) 0 [(0, .ref (ad 215)), (1, .int (zI v1))] [] M)
  refine R_aload_n X 0 dX10_read_0 rfl rfl ?_
  refine R_getI X (j := 12) lc_215 rfl inX10 (by decide) rfl rfl rfl wf_X10_159 dX10_read_1 ?_
  obtain ⟨hq1, hf⟩ := zgrd hf
  refine R_if_eq X 15 hq1 dX10_read_4 (by decide) (fun c20 => ?_) (fun c20 => ?_)
  · have hf := zthen hf c20
    exact R_sub [0, 1] rfl (hB15 v1 M hf)
  · have hf := zelse hf c20
    refine R_aload_n X 0 dX10_read_7 rfl rfl ?_
    refine R_getI X (j := 12) lc_215 rfl inX10 (by decide) rfl rfl rfl wf_X10_159 dX10_read_8 ?_
    refine R_iconst X dX10_read_11 ?_
    refine R_icmp_ne X 57 ⟨hq1, (by decide)⟩ dX10_read_12 (by decide) (fun c19 => ?_) (fun c19 => ?_)
    · have hf := zelse hf c19
      refine R_iload_n X 1 dX10_read_57 rfl rfl ?_
      refine R_bipush X dX10_read_58 (by decide +kernel) ?_
      refine R_bipush X dX10_read_60 (by decide +kernel) ?_
      obtain ⟨r2, M3, hc4, hf⟩ := zbnd_some hf
      refine R_callSi X (av := [.int (zI v1), .int (zI 48), .int (zI 57)]) (rest := []) (c_X10_in l D cas ad hi hc4) zy_X10_in wm_X10_34 rfl rfl ⟨Nat.le_of_ble_eq_true rfl, Nat.le_of_ble_eq_true rfl⟩ ⟨Nat.le_refl _, Nat.le_refl _⟩ (Nat.le_of_ble_eq_true rfl) dX10_read_62 ?_
      obtain ⟨hq5, hf⟩ := zgrd hf
      refine R_if_eq X 128 hq5 dX10_read_65 (by decide) (fun c18 => ?_) (fun c18 => ?_)
      · have hf := zthen hf c18
        refine R_aload_n X 0 dX10_read_128 rfl rfl ?_
        refine R_getI X (j := 13) lc_215 rfl inX10 (by decide) rfl rfl rfl wf_X10_162 dX10_read_129 ?_
        obtain ⟨hq6, hf⟩ := zgrd hf
        refine R_if_le X 159 hq6 dX10_read_132 (by decide) (fun c12 => ?_) (fun c12 => ?_)
        · have hf := zthen hf c12
          exact R_sub [0, 1] rfl (hB159 v1 M3 hf)
        · have hf := zelse hf c12
          refine R_iload_n X 1 dX10_read_135 rfl rfl ?_
          refine R_bipush X dX10_read_136 (by decide +kernel) ?_
          obtain ⟨hq7, hf⟩ := zgrd hf
          refine R_icmp_eq X 155 ⟨hq7, (by decide)⟩ dX10_read_138 (by decide) (fun c11 => ?_) (fun c11 => ?_)
          · have hf := zthen hf c11
            exact R_sub [0, 1] rfl (hB155 v1 M3 hf)
          · have hf := zelse hf c11
            refine R_iload_n X 1 dX10_read_141 rfl rfl ?_
            refine R_bipush X dX10_read_142 (by decide +kernel) ?_
            refine R_icmp_ne X 159 ⟨hq7, (by decide)⟩ dX10_read_144 (by decide) (fun c10 => ?_) (fun c10 => ?_)
            · have hf := zelse hf c10
              exact R_sub [0, 1] rfl (hB159 v1 M3 hf)
            · have hf := zthen hf c10
              refine R_aload_n X 0 dX10_read_147 rfl rfl ?_
              refine R_getI X (j := 12) lc_215 rfl inX10 (by decide) rfl rfl rfl wf_X10_159 dX10_read_148 ?_
              refine R_iconst X dX10_read_151 ?_
              obtain ⟨hq8, hf⟩ := zgrd hf
              refine R_icmp_ne X 159 ⟨hq8, (by decide)⟩ dX10_read_152 (by decide) (fun c9 => ?_) (fun c9 => ?_)
              · have hf := zelse hf c9
                exact R_sub [0, 1] rfl (hB159 v1 M3 hf)
              · have hf := zthen hf c9
                exact R_sub [0, 1] rfl (hB155 v1 M3 hf)
      · have hf := zelse hf c18
        refine R_aload_n X 0 dX10_read_68 rfl rfl ?_
        refine R_getI X (j := 14) lc_215 rfl inX10 (by decide) rfl rfl rfl wf_X10_165 dX10_read_69 ?_
        obtain ⟨hq13, hf⟩ := zgrd hf
        refine R_if_ne X 92 hq13 dX10_read_72 (by decide) (fun c17 => ?_) (fun c17 => ?_)
        · have hf := zelse hf c17
          exact R_sub [0, 1] rfl (hB92 v1 M3 hf)
        · have hf := zthen hf c17
          refine R_aload_n X 0 dX10_read_75 rfl rfl ?_
          refine R_getI X (j := 13) lc_215 rfl inX10 (by decide) rfl rfl rfl wf_X10_162 dX10_read_76 ?_
          refine R_aload_n X 0 dX10_read_79 rfl rfl ?_
          refine R_getI X (j := 12) lc_215 rfl inX10 (by decide) rfl rfl rfl wf_X10_159 dX10_read_80 ?_
          refine R_iconst X dX10_read_83 ?_
          refine R_iadd X dX10_read_84 ?_
          obtain ⟨hq14, hf⟩ := zgrd hf
          obtain ⟨hq15, hf⟩ := zgrd hf
          refine R_icmp_ge X 92 ⟨hq14, hq15⟩ dX10_read_85 (by decide) (fun c16 => ?_) (fun c16 => ?_)
          · have hf := zthen hf c16
            exact R_sub [0, 1] rfl (hB92 v1 M3 hf)
          · have hf := zelse hf c16
            refine R_iconst X dX10_read_88 ?_
            refine R_goto X 93 dX10_read_89 (by decide) ?_
            exact R_sub [0, 1] rfl (hB93 v1 1 M3 hf)
    · have hf := zthen hf c19
      exact R_sub [0, 1] rfl (hB15 v1 M hf)
theorem dX10_faultOf_0 : decode cX10_faultOf 0 = .ok (.aload_n 0, 1) := by decide +kernel
theorem dX10_faultOf_1 : decode cX10_faultOf 1 = .ok (.iconst 0, 1) := by decide +kernel
theorem dX10_faultOf_2 : decode cX10_faultOf 2 = .ok (.invokevirtual 168, 3) := by decide +kernel
theorem dX10_faultOf_5 : decode cX10_faultOf 5 = .ok (.iconst 0, 1) := by decide +kernel
theorem dX10_faultOf_6 : decode cX10_faultOf 6 = .ok (.istore_n 1, 1) := by decide +kernel
theorem dX10_faultOf_7 : decode cX10_faultOf 7 = .ok (.iload_n 1, 1) := by decide +kernel
theorem dX10_faultOf_8 : decode cX10_faultOf 8 = .ok (.aload_n 0, 1) := by decide +kernel
theorem dX10_faultOf_9 : decode cX10_faultOf 9 = .ok (.getfield 156, 3) := by decide +kernel
theorem dX10_faultOf_12 : decode cX10_faultOf 12 = .ok (.if_icmp .ge 24, 3) := by decide +kernel
theorem dX10_faultOf_15 : decode cX10_faultOf 15 = .ok (.aload_n 0, 1) := by decide +kernel
theorem dX10_faultOf_16 : decode cX10_faultOf 16 = .ok (.aload_n 0, 1) := by decide +kernel
theorem dX10_faultOf_17 : decode cX10_faultOf 17 = .ok (.getfield 13, 3) := by decide +kernel
theorem dX10_faultOf_20 : decode cX10_faultOf 20 = .ok (.iload_n 1, 1) := by decide +kernel
theorem dX10_faultOf_21 : decode cX10_faultOf 21 = .ok (.iaload, 1) := by decide +kernel
theorem dX10_faultOf_22 : decode cX10_faultOf 22 = .ok (.invokevirtual 171, 3) := by decide +kernel
theorem dX10_faultOf_25 : decode cX10_faultOf 25 = .ok (.ifCond .ne 5, 3) := by decide +kernel
theorem dX10_faultOf_28 : decode cX10_faultOf 28 = .ok (.iload_n 1, 1) := by decide +kernel
theorem dX10_faultOf_29 : decode cX10_faultOf 29 = .ok (.ireturn, 1) := by decide +kernel
theorem dX10_faultOf_30 : decode cX10_faultOf 30 = .ok (.iinc 1 1, 3) := by decide +kernel
theorem dX10_faultOf_33 : decode cX10_faultOf 33 = .ok (.goto (-26), 3) := by decide +kernel
theorem dX10_faultOf_36 : decode cX10_faultOf 36 = .ok (.aload_n 0, 1) := by decide +kernel
theorem dX10_faultOf_37 : decode cX10_faultOf 37 = .ok (.getfield 159, 3) := by decide +kernel
theorem dX10_faultOf_40 : decode cX10_faultOf 40 = .ok (.iconst 1, 1) := by decide +kernel
theorem dX10_faultOf_41 : decode cX10_faultOf 41 = .ok (.if_icmp .le 14, 3) := by decide +kernel
theorem dX10_faultOf_44 : decode cX10_faultOf 44 = .ok (.aload_n 0, 1) := by decide +kernel
theorem dX10_faultOf_45 : decode cX10_faultOf 45 = .ok (.getfield 162, 3) := by decide +kernel
theorem dX10_faultOf_48 : decode cX10_faultOf 48 = .ok (.ifCond .le 7, 3) := by decide +kernel
theorem dX10_faultOf_51 : decode cX10_faultOf 51 = .ok (.iconst (-1), 1) := by decide +kernel
theorem dX10_faultOf_52 : decode cX10_faultOf 52 = .ok (.goto 7, 3) := by decide +kernel
theorem dX10_faultOf_55 : decode cX10_faultOf 55 = .ok (.aload_n 0, 1) := by decide +kernel
theorem dX10_faultOf_56 : decode cX10_faultOf 56 = .ok (.getfield 156, 3) := by decide +kernel
theorem dX10_faultOf_59 : decode cX10_faultOf 59 = .ok (.ireturn, 1) := by decide +kernel
set_option maxRecDepth 100000 in
set_option maxHeartbeats 4000000 in
theorem c_X10_faultOf (l : Launch) (D : va_G) (cas : Nat → ClassId) (ad : Nat → Nat) (hi : zInj ad)   {r : Int} {M M' : Mem} (hf : f_X10_faultOf M = some (r, M')) : zMi l D cas ad yX10_faultOf cX10_faultOf 2 (some .int) 2 44 [.ref (ad 215)] M r M' := by
  refine zbody (by decide) (Nat.le_of_ble_eq_true rfl) hi ?_
  intro p e s m args below meth c X hr hk0
  have X : zX p s m args c cX10_faultOf "ShardTrailsModel" 2 D cas ad (zA ad) := X
  have hB59 : ∀ (t1 : Int) (M : Mem), f_X10_faultOf_b59 t1 M = some (r, M') → WW p l e (zrm 2 44) s m args below meth c D cas ad (zA ad) 2 0 0 (MQ below (zQi D cas ad r M') args s 0 0 (zA ad)) 59 [] [.int (zI t1)] M := by
    intro t1 M hf
    unfold f_X10_faultOf_b59 at hf
    exact R_iret X hr hk0 dX10_faultOf_59 hf
  have hB55 : ∀ (M : Mem), f_X10_faultOf_b55 M = some (r, M') → WW p l e (zrm 2 44) s m args below meth c D cas ad (zA ad) 2 0 0 (MQ below (zQi D cas ad r M') args s 0 0 (zA ad)) 55 [(0, .ref (ad 215))] [] M := by
    intro M hf
    unfold f_X10_faultOf_b55 at hf
    refine R_aload_n X 0 dX10_faultOf_55 rfl rfl ?_
    refine R_getI X (j := 4) lc_215 rfl inX10 (by decide) rfl rfl rfl wf_X10_156 dX10_faultOf_56 ?_
    exact R_sub [] rfl (hB59 (M 215 4) M hf)
  have hB7 : ∀ (n : Nat) (v1 : Int) (M : Mem), f_X10_faultOf_b7 n v1 M = some (r, M') → WW p l e (zrm 2 44) s m args below meth c D cas ad (zA ad) 2 0 0 (MQ below (zQi D cas ad r M') args s 0 0 (zA ad)) 7 [(0, .ref (ad 215)), (1, .int (zI v1))] [] M := by
    intro n
    induction n with
    | zero => intro v1 M hf; exact absurd hf (by unfold f_X10_faultOf_b7; simp)
    | succ n ih =>
      intro v1 M hf
      unfold f_X10_faultOf_b7 at hf
      refine R_iload_n X 1 dX10_faultOf_7 rfl rfl ?_
      refine R_aload_n X 0 dX10_faultOf_8 rfl rfl ?_
      refine R_getI X (j := 4) lc_215 rfl inX10 (by decide) rfl rfl rfl wf_X10_156 dX10_faultOf_9 ?_
      obtain ⟨hq4, hf⟩ := zgrd hf
      obtain ⟨hq5, hf⟩ := zgrd hf
      refine R_icmp_ge X 36 ⟨hq4, hq5⟩ dX10_faultOf_12 (by decide) (fun c16 => ?_) (fun c16 => ?_)
      · have hf := zthen hf c16
        refine R_aload_n X 0 dX10_faultOf_36 rfl rfl ?_
        refine R_getI X (j := 12) lc_215 rfl inX10 (by decide) rfl rfl rfl wf_X10_159 dX10_faultOf_37 ?_
        refine R_iconst X dX10_faultOf_40 ?_
        obtain ⟨hq6, hf⟩ := zgrd hf
        refine R_icmp_le X 55 ⟨hq6, (by decide)⟩ dX10_faultOf_41 (by decide) (fun c9 => ?_) (fun c9 => ?_)
        · have hf := zthen hf c9
          exact R_sub [0] rfl (hB55 M hf)
        · have hf := zelse hf c9
          refine R_aload_n X 0 dX10_faultOf_44 rfl rfl ?_
          refine R_getI X (j := 13) lc_215 rfl inX10 (by decide) rfl rfl rfl wf_X10_162 dX10_faultOf_45 ?_
          obtain ⟨hq7, hf⟩ := zgrd hf
          refine R_if_le X 55 hq7 dX10_faultOf_48 (by decide) (fun c8 => ?_) (fun c8 => ?_)
          · have hf := zthen hf c8
            exact R_sub [0] rfl (hB55 M hf)
          · have hf := zelse hf c8
            refine R_iconst X dX10_faultOf_51 ?_
            refine R_goto X 59 dX10_faultOf_52 (by decide) ?_
            exact R_sub [] rfl (hB59 (-1) M hf)
      · have hf := zelse hf c16
        refine R_aload_n X 0 dX10_faultOf_15 rfl rfl ?_
        refine R_aload_n X 0 dX10_faultOf_16 rfl rfl ?_
        refine R_getR X (j := 3) 2 217 lc_215 rfl inX10 (by decide) rfl rfl (by decide) rfl rfl wf_X10_13 dX10_faultOf_17 ?_
        refine R_iload_n X 1 dX10_faultOf_20 rfl rfl ?_
        obtain ⟨hq10, hf⟩ := zgrd hf
        refine R_iald X lc_217 hq10 dX10_faultOf_21 ?_
        obtain ⟨r11, M12, hc13, hf⟩ := zbnd_some hf
        refine R_callVi X (av := [.int (zI (M 217 v1.toNat))]) (rest := []) (c_X10_read l D cas ad hi hc13) zy_X10_read lc_215 rfl rfl wm_X10_171 rfl rfl ⟨Nat.le_of_ble_eq_true rfl, Nat.le_of_ble_eq_true rfl⟩ ⟨Nat.le_refl _, Nat.le_refl _⟩ (Nat.le_of_ble_eq_true rfl) dX10_faultOf_22 ?_
        obtain ⟨hq14, hf⟩ := zgrd hf
        refine R_if_ne X 30 hq14 dX10_faultOf_25 (by decide) (fun c15 => ?_) (fun c15 => ?_)
        · have hf := zelse hf c15
          refine R_iinc X (lv' := [(1, .int (zI (v1 + 1))), (0, .ref (ad 215))]) 1 dX10_faultOf_30 rfl (by decide) rfl ?_
          refine R_goto X 7 dX10_faultOf_33 (by decide) ?_
          exact R_sub [1, 0] rfl (ih (v1 + 1) M12 hf)
        · have hf := zthen hf c15
          refine R_iload_n X 1 dX10_faultOf_28 rfl rfl ?_
          exact R_iret X hr hk0 dX10_faultOf_29 hf
  unfold f_X10_faultOf at hf
  refine (?_ : WW p l e (zrm 2 44) s m args below meth c D cas ad (zA ad) 2 0 0 (MQ below (zQi D cas ad r M') args s 0 0 (zA ad)) 0 [(0, .ref (ad 215))] [] M)
  refine R_aload_n X 0 dX10_faultOf_0 rfl rfl ?_
  refine R_iconst X dX10_faultOf_1 ?_
  obtain ⟨r1, M2, hc3, hf⟩ := zbnd_some hf
  refine R_callVv X (av := [.int (zI 0)]) (rest := []) (c_X10_begin l D cas ad hi hc3) zy_X10_begin lc_215 rfl rfl wm_X10_168 rfl rfl ⟨Nat.le_of_ble_eq_true rfl, Nat.le_of_ble_eq_true rfl⟩ ⟨Nat.le_refl _, Nat.le_refl _⟩ (Nat.le_of_ble_eq_true rfl) dX10_faultOf_2 ?_
  refine R_iconst X dX10_faultOf_5 ?_
  refine R_istore_n X (lv' := [(1, .int (zI 0)), (0, .ref (ad 215))]) dX10_faultOf_6 rfl (by decide) rfl ?_
  exact R_sub [1, 0] rfl (hB7 100000 0 M2 hf)
theorem dX10_has_0 : decode cX10_has 0 = .ok (.iload_n 0, 1) := by decide +kernel
theorem dX10_has_1 : decode cX10_has 1 = .ok (.iload_n 1, 1) := by decide +kernel
theorem dX10_has_2 : decode cX10_has 2 = .ok (.ishr, 1) := by decide +kernel
theorem dX10_has_3 : decode cX10_has 3 = .ok (.iconst 1, 1) := by decide +kernel
theorem dX10_has_4 : decode cX10_has 4 = .ok (.iand, 1) := by decide +kernel
theorem dX10_has_5 : decode cX10_has 5 = .ok (.iconst 1, 1) := by decide +kernel
theorem dX10_has_6 : decode cX10_has 6 = .ok (.if_icmp .ne 7, 3) := by decide +kernel
theorem dX10_has_9 : decode cX10_has 9 = .ok (.iconst 1, 1) := by decide +kernel
theorem dX10_has_10 : decode cX10_has 10 = .ok (.goto 4, 3) := by decide +kernel
theorem dX10_has_13 : decode cX10_has 13 = .ok (.iconst 0, 1) := by decide +kernel
theorem dX10_has_14 : decode cX10_has 14 = .ok (.ireturn, 1) := by decide +kernel
set_option maxRecDepth 100000 in
set_option maxHeartbeats 4000000 in
theorem c_X10_has (l : Launch) (D : va_G) (cas : Nat → ClassId) (ad : Nat → Nat) (hi : zInj ad) {v0 : Int} {v1 : Int}  {r : Int} {M M' : Mem} (hf : f_X10_has v0 v1 M = some (r, M')) : zMi l D cas ad yX10_has cX10_has 2 (some .boolean) 0 0 [.int (zI v0), .int (zI v1)] M r M' := by
  refine zbody (by decide) (Nat.le_of_ble_eq_true rfl) hi ?_
  intro p e s m args below meth c X hr hk0
  have X : zX p s m args c cX10_has "ShardTrailsModel" 2 D cas ad (zA ad) := X
  have hB14 : ∀ (t1 : Int) (M : Mem), f_X10_has_b14 t1 M = some (r, M') → WW p l e (zrm 0 0) s m args below meth c D cas ad (zA ad) 2 0 0 (MQ below (zQi D cas ad r M') args s 0 0 (zA ad)) 14 [] [.int (zI t1)] M := by
    intro t1 M hf
    unfold f_X10_has_b14 at hf
    obtain ⟨hq3, hf⟩ := zgrd hf
    exact R_zret X hq3 hr hk0 dX10_has_14 hf
  unfold f_X10_has at hf
  refine (?_ : WW p l e (zrm 0 0) s m args below meth c D cas ad (zA ad) 2 0 0 (MQ below (zQi D cas ad r M') args s 0 0 (zA ad)) 0 [(0, .int (zI v0)), (1, .int (zI v1))] [] M)
  refine R_iload_n X 0 dX10_has_0 rfl rfl ?_
  refine R_iload_n X 1 dX10_has_1 rfl rfl ?_
  refine R_ishr X dX10_has_2 ?_
  refine R_iconst X dX10_has_3 ?_
  refine R_iand X dX10_has_4 ?_
  refine R_iconst X dX10_has_5 ?_
  obtain ⟨hq1, hf⟩ := zgrd hf
  refine R_icmp_ne X 13 ⟨hq1, (by decide)⟩ dX10_has_6 (by decide) (fun c2 => ?_) (fun c2 => ?_)
  · have hf := zelse hf c2
    refine R_iconst X dX10_has_13 ?_
    exact R_sub [] rfl (hB14 0 M hf)
  · have hf := zthen hf c2
    refine R_iconst X dX10_has_9 ?_
    refine R_goto X 14 dX10_has_10 (by decide) ?_
    exact R_sub [] rfl (hB14 1 M hf)
theorem dX10_nextInn_0 : decode cX10_nextInn 0 = .ok (.bipush (-5), 2) := by decide +kernel
theorem dX10_nextInn_2 : decode cX10_nextInn 2 = .ok (.istore_n 2, 1) := by decide +kernel
theorem dX10_nextInn_3 : decode cX10_nextInn 3 = .ok (.iconst 0, 1) := by decide +kernel
theorem dX10_nextInn_4 : decode cX10_nextInn 4 = .ok (.istore_n 3, 1) := by decide +kernel
theorem dX10_nextInn_5 : decode cX10_nextInn 5 = .ok (.iconst 0, 1) := by decide +kernel
theorem dX10_nextInn_6 : decode cX10_nextInn 6 = .ok (.istore 4, 2) := by decide +kernel
theorem dX10_nextInn_8 : decode cX10_nextInn 8 = .ok (.iload 4, 2) := by decide +kernel
theorem dX10_nextInn_10 : decode cX10_nextInn 10 = .ok (.aload_n 0, 1) := by decide +kernel
theorem dX10_nextInn_11 : decode cX10_nextInn 11 = .ok (.getfield 7, 3) := by decide +kernel
theorem dX10_nextInn_14 : decode cX10_nextInn 14 = .ok (.sipush 863, 3) := by decide +kernel
theorem dX10_nextInn_17 : decode cX10_nextInn 17 = .ok (.iaload, 1) := by decide +kernel
theorem dX10_nextInn_18 : decode cX10_nextInn 18 = .ok (.if_icmp .ge 102, 3) := by decide +kernel
theorem dX10_nextInn_21 : decode cX10_nextInn 21 = .ok (.aload_n 0, 1) := by decide +kernel
theorem dX10_nextInn_22 : decode cX10_nextInn 22 = .ok (.iload 4, 2) := by decide +kernel
theorem dX10_nextInn_24 : decode cX10_nextInn 24 = .ok (.invokevirtual 64, 3) := by decide +kernel
theorem dX10_nextInn_27 : decode cX10_nextInn 27 = .ok (.aload_n 0, 1) := by decide +kernel
theorem dX10_nextInn_28 : decode cX10_nextInn 28 = .ok (.iload_n 1, 1) := by decide +kernel
theorem dX10_nextInn_29 : decode cX10_nextInn 29 = .ok (.invokevirtual 64, 3) := by decide +kernel
theorem dX10_nextInn_32 : decode cX10_nextInn 32 = .ok (.if_icmp .ge 18, 3) := by decide +kernel
theorem dX10_nextInn_35 : decode cX10_nextInn 35 = .ok (.aload_n 0, 1) := by decide +kernel
theorem dX10_nextInn_36 : decode cX10_nextInn 36 = .ok (.iload_n 1, 1) := by decide +kernel
theorem dX10_nextInn_37 : decode cX10_nextInn 37 = .ok (.invokevirtual 64, 3) := by decide +kernel
theorem dX10_nextInn_40 : decode cX10_nextInn 40 = .ok (.aload_n 0, 1) := by decide +kernel
theorem dX10_nextInn_41 : decode cX10_nextInn 41 = .ok (.iload 4, 2) := by decide +kernel
theorem dX10_nextInn_43 : decode cX10_nextInn 43 = .ok (.invokevirtual 64, 3) := by decide +kernel
theorem dX10_nextInn_46 : decode cX10_nextInn 46 = .ok (.isub, 1) := by decide +kernel
theorem dX10_nextInn_47 : decode cX10_nextInn 47 = .ok (.goto 15, 3) := by decide +kernel
theorem dX10_nextInn_50 : decode cX10_nextInn 50 = .ok (.aload_n 0, 1) := by decide +kernel
theorem dX10_nextInn_51 : decode cX10_nextInn 51 = .ok (.iload 4, 2) := by decide +kernel
theorem dX10_nextInn_53 : decode cX10_nextInn 53 = .ok (.invokevirtual 64, 3) := by decide +kernel
theorem dX10_nextInn_56 : decode cX10_nextInn 56 = .ok (.aload_n 0, 1) := by decide +kernel
theorem dX10_nextInn_57 : decode cX10_nextInn 57 = .ok (.iload_n 1, 1) := by decide +kernel
theorem dX10_nextInn_58 : decode cX10_nextInn 58 = .ok (.invokevirtual 64, 3) := by decide +kernel
theorem dX10_nextInn_61 : decode cX10_nextInn 61 = .ok (.isub, 1) := by decide +kernel
theorem dX10_nextInn_62 : decode cX10_nextInn 62 = .ok (.istore 5, 2) := by decide +kernel
theorem dX10_nextInn_64 : decode cX10_nextInn 64 = .ok (.iload 4, 2) := by decide +kernel
theorem dX10_nextInn_66 : decode cX10_nextInn 66 = .ok (.iload_n 1, 1) := by decide +kernel
theorem dX10_nextInn_67 : decode cX10_nextInn 67 = .ok (.if_icmp .eq 47, 3) := by decide +kernel
theorem dX10_nextInn_70 : decode cX10_nextInn 70 = .ok (.aload_n 0, 1) := by decide +kernel
theorem dX10_nextInn_71 : decode cX10_nextInn 71 = .ok (.iload 4, 2) := by decide +kernel
theorem dX10_nextInn_73 : decode cX10_nextInn 73 = .ok (.invokevirtual 38, 3) := by decide +kernel
theorem dX10_nextInn_76 : decode cX10_nextInn 76 = .ok (.ifCond .eq 38, 3) := by decide +kernel
theorem dX10_nextInn_79 : decode cX10_nextInn 79 = .ok (.aload_n 0, 1) := by decide +kernel
theorem dX10_nextInn_80 : decode cX10_nextInn 80 = .ok (.getfield 116, 3) := by decide +kernel
theorem dX10_nextInn_83 : decode cX10_nextInn 83 = .ok (.aload_n 0, 1) := by decide +kernel
theorem dX10_nextInn_84 : decode cX10_nextInn 84 = .ok (.getfield 119, 3) := by decide +kernel
theorem dX10_nextInn_87 : decode cX10_nextInn 87 = .ok (.ior, 1) := by decide +kernel
theorem dX10_nextInn_88 : decode cX10_nextInn 88 = .ok (.iload 4, 2) := by decide +kernel
theorem dX10_nextInn_90 : decode cX10_nextInn 90 = .ok (.invokestatic 122, 3) := by decide +kernel
theorem dX10_nextInn_93 : decode cX10_nextInn 93 = .ok (.ifCond .ne 21, 3) := by decide +kernel
theorem dX10_nextInn_96 : decode cX10_nextInn 96 = .ok (.iload_n 2, 1) := by decide +kernel
theorem dX10_nextInn_97 : decode cX10_nextInn 97 = .ok (.bipush (-5), 2) := by decide +kernel
theorem dX10_nextInn_99 : decode cX10_nextInn 99 = .ok (.if_icmp .eq 9, 3) := by decide +kernel
theorem dX10_nextInn_102 : decode cX10_nextInn 102 = .ok (.iload 5, 2) := by decide +kernel
theorem dX10_nextInn_104 : decode cX10_nextInn 104 = .ok (.iload_n 3, 1) := by decide +kernel
theorem dX10_nextInn_105 : decode cX10_nextInn 105 = .ok (.if_icmp .ge 9, 3) := by decide +kernel
theorem dX10_nextInn_108 : decode cX10_nextInn 108 = .ok (.iload 4, 2) := by decide +kernel
theorem dX10_nextInn_110 : decode cX10_nextInn 110 = .ok (.istore_n 2, 1) := by decide +kernel
theorem dX10_nextInn_111 : decode cX10_nextInn 111 = .ok (.iload 5, 2) := by decide +kernel
theorem dX10_nextInn_113 : decode cX10_nextInn 113 = .ok (.istore_n 3, 1) := by decide +kernel
theorem dX10_nextInn_114 : decode cX10_nextInn 114 = .ok (.iinc 4 1, 3) := by decide +kernel
theorem dX10_nextInn_117 : decode cX10_nextInn 117 = .ok (.goto (-109), 3) := by decide +kernel
theorem dX10_nextInn_120 : decode cX10_nextInn 120 = .ok (.iload_n 2, 1) := by decide +kernel
theorem dX10_nextInn_121 : decode cX10_nextInn 121 = .ok (.ireturn, 1) := by decide +kernel
set_option maxRecDepth 100000 in
set_option maxHeartbeats 4000000 in
theorem c_X10_nextInn (l : Launch) (D : va_G) (cas : Nat → ClassId) (ad : Nat → Nat) (hi : zInj ad) {v1 : Int}  {r : Int} {M M' : Mem} (hf : f_X10_nextInn v1 M = some (r, M')) : zMi l D cas ad yX10_nextInn cX10_nextInn 6 (some .int) 1 21 [.ref (ad 215), .int (zI v1)] M r M' := by
  refine zbody (by decide) (Nat.le_of_ble_eq_true rfl) hi ?_
  intro p e s m args below meth c X hr hk0
  have X : zX p s m args c cX10_nextInn "ShardTrailsModel" 6 D cas ad (zA ad) := X
  have hB114 : ∀ (g8 : Int → Int → Int → Int → Mem → Option (Int × Mem)) (hg8 : ∀ (v1 v2 v3 v4 : Int) (M : Mem), g8 v1 v2 v3 v4 M = some (r, M') → WW p l e (zrm 1 21) s m args below meth c D cas ad (zA ad) 6 0 0 (MQ below (zQi D cas ad r M') args s 0 0 (zA ad)) 8 [(0, .ref (ad 215)), (1, .int (zI v1)), (2, .int (zI v2)), (3, .int (zI v3)), (4, .int (zI v4))] [] M) (v1 v2 v3 v4 : Int) (M : Mem), f_X10_nextInn_b114 g8 v1 v2 v3 v4 M = some (r, M') → WW p l e (zrm 1 21) s m args below meth c D cas ad (zA ad) 6 0 0 (MQ below (zQi D cas ad r M') args s 0 0 (zA ad)) 114 [(0, .ref (ad 215)), (1, .int (zI v1)), (2, .int (zI v2)), (3, .int (zI v3)), (4, .int (zI v4))] [] M := by
    intro g8 hg8 v1 v2 v3 v4 M hf
    unfold f_X10_nextInn_b114 at hf
    refine R_iinc X (lv' := [(4, .int (zI (v4 + 1))), (0, .ref (ad 215)), (1, .int (zI v1)), (2, .int (zI v2)), (3, .int (zI v3))]) 4 dX10_nextInn_114 rfl (by decide) rfl ?_
    refine R_goto X 8 dX10_nextInn_117 (by decide) ?_
    exact R_sub [1, 2, 3, 4, 0] rfl (hg8 v1 v2 v3 (v4 + 1) M hf)
  have hB108 : ∀ (g8 : Int → Int → Int → Int → Mem → Option (Int × Mem)) (hg8 : ∀ (v1 v2 v3 v4 : Int) (M : Mem), g8 v1 v2 v3 v4 M = some (r, M') → WW p l e (zrm 1 21) s m args below meth c D cas ad (zA ad) 6 0 0 (MQ below (zQi D cas ad r M') args s 0 0 (zA ad)) 8 [(0, .ref (ad 215)), (1, .int (zI v1)), (2, .int (zI v2)), (3, .int (zI v3)), (4, .int (zI v4))] [] M) (v1 v4 v5 : Int) (M : Mem), f_X10_nextInn_b108 g8 v1 v4 v5 M = some (r, M') → WW p l e (zrm 1 21) s m args below meth c D cas ad (zA ad) 6 0 0 (MQ below (zQi D cas ad r M') args s 0 0 (zA ad)) 108 [(0, .ref (ad 215)), (1, .int (zI v1)), (4, .int (zI v4)), (5, .int (zI v5))] [] M := by
    intro g8 hg8 v1 v4 v5 M hf
    unfold f_X10_nextInn_b108 at hf
    refine R_iload X 2 dX10_nextInn_108 rfl ?_
    refine R_istore_n X (lv' := [(2, .int (zI v4)), (0, .ref (ad 215)), (1, .int (zI v1)), (4, .int (zI v4)), (5, .int (zI v5))]) dX10_nextInn_110 rfl (by decide) rfl ?_
    refine R_iload X 4 dX10_nextInn_111 rfl ?_
    refine R_istore_n X (lv' := [(3, .int (zI v5)), (2, .int (zI v4)), (0, .ref (ad 215)), (1, .int (zI v1)), (4, .int (zI v4)), (5, .int (zI v5))]) dX10_nextInn_113 rfl (by decide) rfl ?_
    exact R_sub [2, 3, 1, 0, 4] rfl (hB114 g8 hg8 v1 v4 v5 v4 M hf)
  have hB62 : ∀ (g8 : Int → Int → Int → Int → Mem → Option (Int × Mem)) (hg8 : ∀ (v1 v2 v3 v4 : Int) (M : Mem), g8 v1 v2 v3 v4 M = some (r, M') → WW p l e (zrm 1 21) s m args below meth c D cas ad (zA ad) 6 0 0 (MQ below (zQi D cas ad r M') args s 0 0 (zA ad)) 8 [(0, .ref (ad 215)), (1, .int (zI v1)), (2, .int (zI v2)), (3, .int (zI v3)), (4, .int (zI v4))] [] M) (v1 v2 v3 v4 t1 : Int) (M : Mem), f_X10_nextInn_b62 g8 v1 v2 v3 v4 t1 M = some (r, M') → WW p l e (zrm 1 21) s m args below meth c D cas ad (zA ad) 6 0 0 (MQ below (zQi D cas ad r M') args s 0 0 (zA ad)) 62 [(0, .ref (ad 215)), (1, .int (zI v1)), (2, .int (zI v2)), (3, .int (zI v3)), (4, .int (zI v4))] [.int (zI t1)] M := by
    intro g8 hg8 v1 v2 v3 v4 t1 M hf
    unfold f_X10_nextInn_b62 at hf
    refine R_istore X (lv' := [(5, .int (zI t1)), (0, .ref (ad 215)), (1, .int (zI v1)), (2, .int (zI v2)), (3, .int (zI v3)), (4, .int (zI v4))]) dX10_nextInn_62 (by decide) rfl ?_
    refine R_iload X 5 dX10_nextInn_64 rfl ?_
    refine R_iload_n X 2 dX10_nextInn_66 rfl rfl ?_
    obtain ⟨hq25, hf⟩ := zgrd hf
    obtain ⟨hq26, hf⟩ := zgrd hf
    refine R_icmp_eq X 114 ⟨hq25, hq26⟩ dX10_nextInn_67 (by decide) (fun c42 => ?_) (fun c42 => ?_)
    · have hf := zthen hf c42
      exact R_sub [1, 2, 3, 4, 5] rfl (hB114 g8 hg8 v1 v2 v3 v4 M hf)
    · have hf := zelse hf c42
      refine R_aload_n X 1 dX10_nextInn_70 rfl rfl ?_
      refine R_iload X 5 dX10_nextInn_71 rfl ?_
      obtain ⟨r27, M28, hc29, hf⟩ := zbnd_some hf
      refine R_callVi X (av := [.int (zI v4)]) (rest := []) (c_X10_hasInn l D cas ad hi hc29) zy_X10_hasInn lc_215 rfl rfl wm_X10_38 rfl rfl ⟨Nat.le_of_ble_eq_true rfl, Nat.le_of_ble_eq_true rfl⟩ ⟨Nat.le_refl _, Nat.le_refl _⟩ (Nat.le_of_ble_eq_true rfl) dX10_nextInn_73 ?_
      obtain ⟨hq30, hf⟩ := zgrd hf
      refine R_if_eq X 114 hq30 dX10_nextInn_76 (by decide) (fun c41 => ?_) (fun c41 => ?_)
      · have hf := zthen hf c41
        exact R_sub [1, 2, 3, 4, 5] rfl (hB114 g8 hg8 v1 v2 v3 v4 M28 hf)
      · have hf := zelse hf c41
        refine R_aload_n X 1 dX10_nextInn_79 rfl rfl ?_
        refine R_getI X (j := 9) lc_215 rfl inX10 (by decide) rfl rfl rfl wf_X10_116 dX10_nextInn_80 ?_
        refine R_aload_n X 1 dX10_nextInn_83 rfl rfl ?_
        refine R_getI X (j := 10) lc_215 rfl inX10 (by decide) rfl rfl rfl wf_X10_119 dX10_nextInn_84 ?_
        refine R_ior X dX10_nextInn_87 ?_
        refine R_iload X 5 dX10_nextInn_88 rfl ?_
        obtain ⟨r31, M32, hc33, hf⟩ := zbnd_some hf
        refine R_callSi X (av := [.int (zI (ior (M28 215 9) (M28 215 10))), .int (zI v4)]) (rest := []) (c_X10_has l D cas ad hi hc33) zy_X10_has wm_X10_122 rfl rfl ⟨Nat.le_of_ble_eq_true rfl, Nat.le_of_ble_eq_true rfl⟩ ⟨Nat.le_refl _, Nat.le_refl _⟩ (Nat.le_of_ble_eq_true rfl) dX10_nextInn_90 ?_
        obtain ⟨hq34, hf⟩ := zgrd hf
        refine R_if_ne X 114 hq34 dX10_nextInn_93 (by decide) (fun c40 => ?_) (fun c40 => ?_)
        · have hf := zelse hf c40
          exact R_sub [1, 2, 3, 4, 5] rfl (hB114 g8 hg8 v1 v2 v3 v4 M32 hf)
        · have hf := zthen hf c40
          refine R_iload_n X 3 dX10_nextInn_96 rfl rfl ?_
          refine R_bipush X dX10_nextInn_97 (by decide +kernel) ?_
          obtain ⟨hq35, hf⟩ := zgrd hf
          refine R_icmp_eq X 108 ⟨hq35, (by decide)⟩ dX10_nextInn_99 (by decide) (fun c39 => ?_) (fun c39 => ?_)
          · have hf := zthen hf c39
            exact R_sub [1, 2, 5, 0] rfl (hB108 g8 hg8 v1 v4 t1 M32 hf)
          · have hf := zelse hf c39
            refine R_iload X 0 dX10_nextInn_102 rfl ?_
            refine R_iload_n X 4 dX10_nextInn_104 rfl rfl ?_
            obtain ⟨hq36, hf⟩ := zgrd hf
            obtain ⟨hq37, hf⟩ := zgrd hf
            refine R_icmp_ge X 114 ⟨hq36, hq37⟩ dX10_nextInn_105 (by decide) (fun c38 => ?_) (fun c38 => ?_)
            · have hf := zthen hf c38
              exact R_sub [1, 2, 3, 4, 5] rfl (hB114 g8 hg8 v1 v2 v3 v4 M32 hf)
            · have hf := zelse hf c38
              exact R_sub [1, 2, 5, 0] rfl (hB108 g8 hg8 v1 v4 t1 M32 hf)
  have hB8 : ∀ (n : Nat) (v1 v2 v3 v4 : Int) (M : Mem), f_X10_nextInn_b8 n v1 v2 v3 v4 M = some (r, M') → WW p l e (zrm 1 21) s m args below meth c D cas ad (zA ad) 6 0 0 (MQ below (zQi D cas ad r M') args s 0 0 (zA ad)) 8 [(0, .ref (ad 215)), (1, .int (zI v1)), (2, .int (zI v2)), (3, .int (zI v3)), (4, .int (zI v4))] [] M := by
    intro n
    induction n with
    | zero => intro v1 v2 v3 v4 M hf; exact absurd hf (by unfold f_X10_nextInn_b8; simp)
    | succ n ih =>
      intro v1 v2 v3 v4 M hf
      unfold f_X10_nextInn_b8 at hf
      refine R_iload X 4 dX10_nextInn_8 rfl ?_
      refine R_aload_n X 0 dX10_nextInn_10 rfl rfl ?_
      refine R_getR X (j := 0) 1 216 lc_215 rfl inX10 (by decide) rfl rfl (by decide) rfl rfl wf_X10_7 dX10_nextInn_11 ?_
      refine R_sipush X dX10_nextInn_14 (by decide +kernel) ?_
      refine R_iald X lc_216 (by decide) dX10_nextInn_17 ?_
      obtain ⟨hq1, hf⟩ := zgrd hf
      obtain ⟨hq2, hf⟩ := zgrd hf
      refine R_icmp_ge X 120 ⟨hq1, hq2⟩ dX10_nextInn_18 (by decide) (fun c24 => ?_) (fun c24 => ?_)
      · have hf := zthen hf c24
        refine R_iload_n X 2 dX10_nextInn_120 rfl rfl ?_
        exact R_iret X hr hk0 dX10_nextInn_121 hf
      · have hf := zelse hf c24
        refine R_aload_n X 0 dX10_nextInn_21 rfl rfl ?_
        refine R_iload X 4 dX10_nextInn_22 rfl ?_
        obtain ⟨r3, M4, hc5, hf⟩ := zbnd_some hf
        refine R_callVi X (av := [.int (zI v4)]) (rest := []) (c_X10_latitudeOf l D cas ad hi hc5) zy_X10_latitudeOf lc_215 rfl rfl wm_X10_64 rfl rfl ⟨Nat.le_of_ble_eq_true rfl, Nat.le_of_ble_eq_true rfl⟩ ⟨Nat.le_refl _, Nat.le_refl _⟩ (Nat.le_of_ble_eq_true rfl) dX10_nextInn_24 ?_
        refine R_aload_n X 0 dX10_nextInn_27 rfl rfl ?_
        refine R_iload_n X 1 dX10_nextInn_28 rfl rfl ?_
        obtain ⟨r6, M7, hc8, hf⟩ := zbnd_some hf
        refine R_callVi X (av := [.int (zI v1)]) (rest := [.int (zI r3)]) (c_X10_latitudeOf l D cas ad hi hc8) zy_X10_latitudeOf lc_215 rfl rfl wm_X10_64 rfl rfl ⟨Nat.le_of_ble_eq_true rfl, Nat.le_of_ble_eq_true rfl⟩ ⟨Nat.le_refl _, Nat.le_refl _⟩ (Nat.le_of_ble_eq_true rfl) dX10_nextInn_29 ?_
        obtain ⟨hq9, hf⟩ := zgrd hf
        obtain ⟨hq10, hf⟩ := zgrd hf
        refine R_icmp_ge X 50 ⟨hq9, hq10⟩ dX10_nextInn_32 (by decide) (fun c23 => ?_) (fun c23 => ?_)
        · have hf := zthen hf c23
          refine R_aload_n X 0 dX10_nextInn_50 rfl rfl ?_
          refine R_iload X 4 dX10_nextInn_51 rfl ?_
          obtain ⟨r11, M12, hc13, hf⟩ := zbnd_some hf
          refine R_callVi X (av := [.int (zI v4)]) (rest := []) (c_X10_latitudeOf l D cas ad hi hc13) zy_X10_latitudeOf lc_215 rfl rfl wm_X10_64 rfl rfl ⟨Nat.le_of_ble_eq_true rfl, Nat.le_of_ble_eq_true rfl⟩ ⟨Nat.le_refl _, Nat.le_refl _⟩ (Nat.le_of_ble_eq_true rfl) dX10_nextInn_53 ?_
          refine R_aload_n X 0 dX10_nextInn_56 rfl rfl ?_
          refine R_iload_n X 1 dX10_nextInn_57 rfl rfl ?_
          obtain ⟨r14, M15, hc16, hf⟩ := zbnd_some hf
          refine R_callVi X (av := [.int (zI v1)]) (rest := [.int (zI r11)]) (c_X10_latitudeOf l D cas ad hi hc16) zy_X10_latitudeOf lc_215 rfl rfl wm_X10_64 rfl rfl ⟨Nat.le_of_ble_eq_true rfl, Nat.le_of_ble_eq_true rfl⟩ ⟨Nat.le_refl _, Nat.le_refl _⟩ (Nat.le_of_ble_eq_true rfl) dX10_nextInn_58 ?_
          refine R_isub X dX10_nextInn_61 ?_
          exact R_sub [0, 1, 2, 3, 4] rfl (hB62 (f_X10_nextInn_b8 n) ih v1 v2 v3 v4 (r11 - r14) M15 hf)
        · have hf := zelse hf c23
          refine R_aload_n X 0 dX10_nextInn_35 rfl rfl ?_
          refine R_iload_n X 1 dX10_nextInn_36 rfl rfl ?_
          obtain ⟨r17, M18, hc19, hf⟩ := zbnd_some hf
          refine R_callVi X (av := [.int (zI v1)]) (rest := []) (c_X10_latitudeOf l D cas ad hi hc19) zy_X10_latitudeOf lc_215 rfl rfl wm_X10_64 rfl rfl ⟨Nat.le_of_ble_eq_true rfl, Nat.le_of_ble_eq_true rfl⟩ ⟨Nat.le_refl _, Nat.le_refl _⟩ (Nat.le_of_ble_eq_true rfl) dX10_nextInn_37 ?_
          refine R_aload_n X 0 dX10_nextInn_40 rfl rfl ?_
          refine R_iload X 4 dX10_nextInn_41 rfl ?_
          obtain ⟨r20, M21, hc22, hf⟩ := zbnd_some hf
          refine R_callVi X (av := [.int (zI v4)]) (rest := [.int (zI r17)]) (c_X10_latitudeOf l D cas ad hi hc22) zy_X10_latitudeOf lc_215 rfl rfl wm_X10_64 rfl rfl ⟨Nat.le_of_ble_eq_true rfl, Nat.le_of_ble_eq_true rfl⟩ ⟨Nat.le_refl _, Nat.le_refl _⟩ (Nat.le_of_ble_eq_true rfl) dX10_nextInn_43 ?_
          refine R_isub X dX10_nextInn_46 ?_
          refine R_goto X 62 dX10_nextInn_47 (by decide) ?_
          exact R_sub [0, 1, 2, 3, 4] rfl (hB62 (f_X10_nextInn_b8 n) ih v1 v2 v3 v4 (r17 - r20) M21 hf)
  unfold f_X10_nextInn at hf
  refine (?_ : WW p l e (zrm 1 21) s m args below meth c D cas ad (zA ad) 6 0 0 (MQ below (zQi D cas ad r M') args s 0 0 (zA ad)) 0 [(0, .ref (ad 215)), (1, .int (zI v1))] [] M)
  refine R_bipush X dX10_nextInn_0 (by decide +kernel) ?_
  refine R_istore_n X (lv' := [(2, .int (zI (-5))), (0, .ref (ad 215)), (1, .int (zI v1))]) dX10_nextInn_2 rfl (by decide) rfl ?_
  refine R_iconst X dX10_nextInn_3 ?_
  refine R_istore_n X (lv' := [(3, .int (zI 0)), (2, .int (zI (-5))), (0, .ref (ad 215)), (1, .int (zI v1))]) dX10_nextInn_4 rfl (by decide) rfl ?_
  refine R_iconst X dX10_nextInn_5 ?_
  refine R_istore X (lv' := [(4, .int (zI 0)), (3, .int (zI 0)), (2, .int (zI (-5))), (0, .ref (ad 215)), (1, .int (zI v1))]) dX10_nextInn_6 (by decide) rfl ?_
  exact R_sub [3, 4, 2, 1, 0] rfl (hB8 100000 v1 (-5) 0 0 M hf)
theorem dX10_stepFrom_0 : decode cX10_stepFrom 0 = .ok (.aload_n 0, 1) := by decide +kernel
theorem dX10_stepFrom_1 : decode cX10_stepFrom 1 = .ok (.iload_n 1, 1) := by decide +kernel
theorem dX10_stepFrom_2 : decode cX10_stepFrom 2 = .ok (.iload_n 2, 1) := by decide +kernel
theorem dX10_stepFrom_3 : decode cX10_stepFrom 3 = .ok (.invokevirtual 80, 3) := by decide +kernel
theorem dX10_stepFrom_6 : decode cX10_stepFrom 6 = .ok (.ifCond .eq 29, 3) := by decide +kernel
theorem dX10_stepFrom_9 : decode cX10_stepFrom 9 = .ok (.aload_n 0, 1) := by decide +kernel
theorem dX10_stepFrom_10 : decode cX10_stepFrom 10 = .ok (.dup, 1) := by decide +kernel
theorem dX10_stepFrom_11 : decode cX10_stepFrom 11 = .ok (.getfield 125, 3) := by decide +kernel
theorem dX10_stepFrom_14 : decode cX10_stepFrom 14 = .ok (.iconst 1, 1) := by decide +kernel
theorem dX10_stepFrom_15 : decode cX10_stepFrom 15 = .ok (.iadd, 1) := by decide +kernel
theorem dX10_stepFrom_16 : decode cX10_stepFrom 16 = .ok (.putfield 125, 3) := by decide +kernel
theorem dX10_stepFrom_19 : decode cX10_stepFrom 19 = .ok (.aload_n 0, 1) := by decide +kernel
theorem dX10_stepFrom_20 : decode cX10_stepFrom 20 = .ok (.getfield 7, 3) := by decide +kernel
theorem dX10_stepFrom_23 : decode cX10_stepFrom 23 = .ok (.sipush 160, 3) := by decide +kernel
theorem dX10_stepFrom_26 : decode cX10_stepFrom 26 = .ok (.iload_n 1, 1) := by decide +kernel
theorem dX10_stepFrom_27 : decode cX10_stepFrom 27 = .ok (.iload_n 2, 1) := by decide +kernel
theorem dX10_stepFrom_28 : decode cX10_stepFrom 28 = .ok (.invokestatic 70, 3) := by decide +kernel
theorem dX10_stepFrom_31 : decode cX10_stepFrom 31 = .ok (.iaload, 1) := by decide +kernel
theorem dX10_stepFrom_32 : decode cX10_stepFrom 32 = .ok (.iconst 1, 1) := by decide +kernel
theorem dX10_stepFrom_33 : decode cX10_stepFrom 33 = .ok (.isub, 1) := by decide +kernel
theorem dX10_stepFrom_34 : decode cX10_stepFrom 34 = .ok (.ireturn, 1) := by decide +kernel
theorem dX10_stepFrom_35 : decode cX10_stepFrom 35 = .ok (.aload_n 0, 1) := by decide +kernel
theorem dX10_stepFrom_36 : decode cX10_stepFrom 36 = .ok (.getfield 7, 3) := by decide +kernel
theorem dX10_stepFrom_39 : decode cX10_stepFrom 39 = .ok (.bipush 32, 2) := by decide +kernel
theorem dX10_stepFrom_41 : decode cX10_stepFrom 41 = .ok (.iload_n 1, 1) := by decide +kernel
theorem dX10_stepFrom_42 : decode cX10_stepFrom 42 = .ok (.iload_n 2, 1) := by decide +kernel
theorem dX10_stepFrom_43 : decode cX10_stepFrom 43 = .ok (.invokestatic 70, 3) := by decide +kernel
theorem dX10_stepFrom_46 : decode cX10_stepFrom 46 = .ok (.iaload, 1) := by decide +kernel
theorem dX10_stepFrom_47 : decode cX10_stepFrom 47 = .ok (.iconst 1, 1) := by decide +kernel
theorem dX10_stepFrom_48 : decode cX10_stepFrom 48 = .ok (.isub, 1) := by decide +kernel
theorem dX10_stepFrom_49 : decode cX10_stepFrom 49 = .ok (.istore_n 3, 1) := by decide +kernel
theorem dX10_stepFrom_50 : decode cX10_stepFrom 50 = .ok (.aload_n 0, 1) := by decide +kernel
theorem dX10_stepFrom_51 : decode cX10_stepFrom 51 = .ok (.iload_n 1, 1) := by decide +kernel
theorem dX10_stepFrom_52 : decode cX10_stepFrom 52 = .ok (.invokevirtual 38, 3) := by decide +kernel
theorem dX10_stepFrom_55 : decode cX10_stepFrom 55 = .ok (.ifCond .eq 37, 3) := by decide +kernel
theorem dX10_stepFrom_58 : decode cX10_stepFrom 58 = .ok (.aload_n 0, 1) := by decide +kernel
theorem dX10_stepFrom_59 : decode cX10_stepFrom 59 = .ok (.getfield 116, 3) := by decide +kernel
theorem dX10_stepFrom_62 : decode cX10_stepFrom 62 = .ok (.iload_n 1, 1) := by decide +kernel
theorem dX10_stepFrom_63 : decode cX10_stepFrom 63 = .ok (.invokestatic 122, 3) := by decide +kernel
theorem dX10_stepFrom_66 : decode cX10_stepFrom 66 = .ok (.ifCond .ne 26, 3) := by decide +kernel
theorem dX10_stepFrom_69 : decode cX10_stepFrom 69 = .ok (.iload_n 3, 1) := by decide +kernel
theorem dX10_stepFrom_70 : decode cX10_stepFrom 70 = .ok (.ifCond .lt 22, 3) := by decide +kernel
theorem dX10_stepFrom_73 : decode cX10_stepFrom 73 = .ok (.iload_n 3, 1) := by decide +kernel
theorem dX10_stepFrom_74 : decode cX10_stepFrom 74 = .ok (.iload_n 1, 1) := by decide +kernel
theorem dX10_stepFrom_75 : decode cX10_stepFrom 75 = .ok (.if_icmp .eq 17, 3) := by decide +kernel
theorem dX10_stepFrom_78 : decode cX10_stepFrom 78 = .ok (.aload_n 0, 1) := by decide +kernel
theorem dX10_stepFrom_79 : decode cX10_stepFrom 79 = .ok (.dup, 1) := by decide +kernel
theorem dX10_stepFrom_80 : decode cX10_stepFrom 80 = .ok (.getfield 116, 3) := by decide +kernel
theorem dX10_stepFrom_83 : decode cX10_stepFrom 83 = .ok (.iconst 1, 1) := by decide +kernel
theorem dX10_stepFrom_84 : decode cX10_stepFrom 84 = .ok (.iload_n 1, 1) := by decide +kernel
theorem dX10_stepFrom_85 : decode cX10_stepFrom 85 = .ok (.ishl, 1) := by decide +kernel
theorem dX10_stepFrom_86 : decode cX10_stepFrom 86 = .ok (.ior, 1) := by decide +kernel
theorem dX10_stepFrom_87 : decode cX10_stepFrom 87 = .ok (.putfield 116, 3) := by decide +kernel
theorem dX10_stepFrom_90 : decode cX10_stepFrom 90 = .ok (.iload_n 3, 1) := by decide +kernel
theorem dX10_stepFrom_91 : decode cX10_stepFrom 91 = .ok (.ireturn, 1) := by decide +kernel
theorem dX10_stepFrom_92 : decode cX10_stepFrom 92 = .ok (.aload_n 0, 1) := by decide +kernel
theorem dX10_stepFrom_93 : decode cX10_stepFrom 93 = .ok (.iload_n 1, 1) := by decide +kernel
theorem dX10_stepFrom_94 : decode cX10_stepFrom 94 = .ok (.invokevirtual 128, 3) := by decide +kernel
theorem dX10_stepFrom_97 : decode cX10_stepFrom 97 = .ok (.istore 4, 2) := by decide +kernel
theorem dX10_stepFrom_99 : decode cX10_stepFrom 99 = .ok (.aload_n 0, 1) := by decide +kernel
theorem dX10_stepFrom_100 : decode cX10_stepFrom 100 = .ok (.dup, 1) := by decide +kernel
theorem dX10_stepFrom_101 : decode cX10_stepFrom 101 = .ok (.getfield 119, 3) := by decide +kernel
theorem dX10_stepFrom_104 : decode cX10_stepFrom 104 = .ok (.iload 4, 2) := by decide +kernel
theorem dX10_stepFrom_106 : decode cX10_stepFrom 106 = .ok (.bipush (-5), 2) := by decide +kernel
theorem dX10_stepFrom_108 : decode cX10_stepFrom 108 = .ok (.if_icmp .ne 7, 3) := by decide +kernel
theorem dX10_stepFrom_111 : decode cX10_stepFrom 111 = .ok (.iconst 0, 1) := by decide +kernel
theorem dX10_stepFrom_112 : decode cX10_stepFrom 112 = .ok (.goto 7, 3) := by decide +kernel
theorem dX10_stepFrom_115 : decode cX10_stepFrom 115 = .ok (.iconst 1, 1) := by decide +kernel
theorem dX10_stepFrom_116 : decode cX10_stepFrom 116 = .ok (.iload 4, 2) := by decide +kernel
theorem dX10_stepFrom_118 : decode cX10_stepFrom 118 = .ok (.ishl, 1) := by decide +kernel
theorem dX10_stepFrom_119 : decode cX10_stepFrom 119 = .ok (.ior, 1) := by decide +kernel
theorem dX10_stepFrom_120 : decode cX10_stepFrom 120 = .ok (.putfield 119, 3) := by decide +kernel
theorem dX10_stepFrom_123 : decode cX10_stepFrom 123 = .ok (.iload 4, 2) := by decide +kernel
theorem dX10_stepFrom_125 : decode cX10_stepFrom 125 = .ok (.ireturn, 1) := by decide +kernel
set_option maxRecDepth 100000 in
set_option maxHeartbeats 4000000 in
theorem c_X10_stepFrom (l : Launch) (D : va_G) (cas : Nat → ClassId) (ad : Nat → Nat) (hi : zInj ad) {v1 : Int} {v2 : Int}  {r : Int} {M M' : Mem} (hf : f_X10_stepFrom v1 v2 M = some (r, M')) : zMi l D cas ad yX10_stepFrom cX10_stepFrom 5 (some .int) 2 46 [.ref (ad 215), .int (zI v1), .int (zI v2)] M r M' := by
  refine zbody (by decide) (Nat.le_of_ble_eq_true rfl) hi ?_
  intro p e s m args below meth c X hr hk0
  have X : zX p s m args c cX10_stepFrom "ShardTrailsModel" 5 D cas ad (zA ad) := X
  have hB119 : ∀ (v4 t3 t2 : Int) (M : Mem), f_X10_stepFrom_b119 v4 t3 t2 M = some (r, M') → WW p l e (zrm 2 46) s m args below meth c D cas ad (zA ad) 5 0 0 (MQ below (zQi D cas ad r M') args s 0 0 (zA ad)) 119 [(4, .int (zI v4))] [.int (zI t3), .int (zI t2), .ref (ad 215)] M := by
    intro v4 t3 t2 M hf
    unfold f_X10_stepFrom_b119 at hf
    refine R_ior X dX10_stepFrom_119 ?_
    obtain ⟨M36, eM36, hf⟩ := zlt_some hf
    refine R_put X (j := 10) lc_215 rfl inX10 tyX10_ok nmX10 (by decide) rfl rfl rfl wf_X10_119 rfl (by decide +kernel) (z_nI _) (z_fI _) dX10_stepFrom_120 ?_
    refine R_mem eM36 ?_
    refine R_iload X 0 dX10_stepFrom_123 rfl ?_
    exact R_iret X hr hk0 dX10_stepFrom_125 hf
  have hB92 : ∀ (v1 : Int) (M : Mem), f_X10_stepFrom_b92 v1 M = some (r, M') → WW p l e (zrm 2 46) s m args below meth c D cas ad (zA ad) 5 0 0 (MQ below (zQi D cas ad r M') args s 0 0 (zA ad)) 92 [(0, .ref (ad 215)), (1, .int (zI v1))] [] M := by
    intro v1 M hf
    unfold f_X10_stepFrom_b92 at hf
    refine R_aload_n X 0 dX10_stepFrom_92 rfl rfl ?_
    refine R_iload_n X 1 dX10_stepFrom_93 rfl rfl ?_
    obtain ⟨r31, M32, hc33, hf⟩ := zbnd_some hf
    refine R_callVi X (av := [.int (zI v1)]) (rest := []) (c_X10_nextInn l D cas ad hi hc33) zy_X10_nextInn lc_215 rfl rfl wm_X10_128 rfl rfl ⟨Nat.le_of_ble_eq_true rfl, Nat.le_of_ble_eq_true rfl⟩ ⟨Nat.le_refl _, Nat.le_refl _⟩ (Nat.le_of_ble_eq_true rfl) dX10_stepFrom_94 ?_
    refine R_istore X (lv' := [(4, .int (zI r31)), (0, .ref (ad 215)), (1, .int (zI v1))]) dX10_stepFrom_97 (by decide) rfl ?_
    refine R_aload_n X 1 dX10_stepFrom_99 rfl rfl ?_
    refine R_dup X dX10_stepFrom_100 rfl ?_
    refine R_getI X (j := 10) lc_215 rfl inX10 (by decide) rfl rfl rfl wf_X10_119 dX10_stepFrom_101 ?_
    refine R_iload X 0 dX10_stepFrom_104 rfl ?_
    refine R_bipush X dX10_stepFrom_106 (by decide +kernel) ?_
    obtain ⟨hq34, hf⟩ := zgrd hf
    refine R_icmp_ne X 115 ⟨hq34, (by decide)⟩ dX10_stepFrom_108 (by decide) (fun c35 => ?_) (fun c35 => ?_)
    · have hf := zelse hf c35
      refine R_iconst X dX10_stepFrom_115 ?_
      refine R_iload X 0 dX10_stepFrom_116 rfl ?_
      refine R_ishl X dX10_stepFrom_118 ?_
      exact R_sub [0] rfl (hB119 r31 (ishl 1 r31) (M32 215 10) M32 hf)
    · have hf := zthen hf c35
      refine R_iconst X dX10_stepFrom_111 ?_
      refine R_goto X 119 dX10_stepFrom_112 (by decide) ?_
      exact R_sub [0] rfl (hB119 r31 0 (M32 215 10) M32 hf)
  unfold f_X10_stepFrom at hf
  refine (?_ : WW p l e (zrm 2 46) s m args below meth c D cas ad (zA ad) 5 0 0 (MQ below (zQi D cas ad r M') args s 0 0 (zA ad)) 0 [(0, .ref (ad 215)), (1, .int (zI v1)), (2, .int (zI v2))] [] M)
  refine R_aload_n X 0 dX10_stepFrom_0 rfl rfl ?_
  refine R_iload_n X 1 dX10_stepFrom_1 rfl rfl ?_
  refine R_iload_n X 2 dX10_stepFrom_2 rfl rfl ?_
  obtain ⟨r1, M2, hc3, hf⟩ := zbnd_some hf
  refine R_callVi X (av := [.int (zI v1), .int (zI v2)]) (rest := []) (c_X10_hasTrack l D cas ad hi hc3) zy_X10_hasTrack lc_215 rfl rfl wm_X10_80 rfl rfl ⟨Nat.le_of_ble_eq_true rfl, Nat.le_of_ble_eq_true rfl⟩ ⟨Nat.le_refl _, Nat.le_refl _⟩ (Nat.le_of_ble_eq_true rfl) dX10_stepFrom_3 ?_
  obtain ⟨hq4, hf⟩ := zgrd hf
  refine R_if_eq X 35 hq4 dX10_stepFrom_6 (by decide) (fun c30 => ?_) (fun c30 => ?_)
  · have hf := zthen hf c30
    refine R_aload_n X 0 dX10_stepFrom_35 rfl rfl ?_
    refine R_getR X (j := 0) 1 216 lc_215 rfl inX10 (by decide) rfl rfl (by decide) rfl rfl wf_X10_7 dX10_stepFrom_36 ?_
    refine R_bipush X dX10_stepFrom_39 (by decide +kernel) ?_
    refine R_iload_n X 1 dX10_stepFrom_41 rfl rfl ?_
    refine R_iload_n X 2 dX10_stepFrom_42 rfl rfl ?_
    obtain ⟨r5, M6, hc7, hf⟩ := zbnd_some hf
    refine R_callSi X (av := [.int (zI 32), .int (zI v1), .int (zI v2)]) (rest := [.ref (ad 216)]) (c_X10_at l D cas ad hi hc7) zy_X10_at wm_X10_70 rfl rfl ⟨Nat.le_of_ble_eq_true rfl, Nat.le_of_ble_eq_true rfl⟩ ⟨Nat.le_refl _, Nat.le_refl _⟩ (Nat.le_of_ble_eq_true rfl) dX10_stepFrom_43 ?_
    obtain ⟨hq8, hf⟩ := zgrd hf
    refine R_iald X lc_216 hq8 dX10_stepFrom_46 ?_
    refine R_iconst X dX10_stepFrom_47 ?_
    refine R_isub X dX10_stepFrom_48 ?_
    obtain ⟨x9, ex9, hf⟩ := zlt_some hf
    refine R_istore_nX X (lv' := [(3, .int (zI x9)), (0, .ref (ad 215)), (1, .int (zI v1)), (2, .int (zI v2))]) ex9 dX10_stepFrom_49 rfl (by decide) rfl ?_
    refine R_aload_n X 1 dX10_stepFrom_50 rfl rfl ?_
    refine R_iload_n X 2 dX10_stepFrom_51 rfl rfl ?_
    obtain ⟨r10, M11, hc12, hf⟩ := zbnd_some hf
    refine R_callVi X (av := [.int (zI v1)]) (rest := []) (c_X10_hasInn l D cas ad hi hc12) zy_X10_hasInn lc_215 rfl rfl wm_X10_38 rfl rfl ⟨Nat.le_of_ble_eq_true rfl, Nat.le_of_ble_eq_true rfl⟩ ⟨Nat.le_refl _, Nat.le_refl _⟩ (Nat.le_of_ble_eq_true rfl) dX10_stepFrom_52 ?_
    obtain ⟨hq13, hf⟩ := zgrd hf
    refine R_if_eq X 92 hq13 dX10_stepFrom_55 (by decide) (fun c24 => ?_) (fun c24 => ?_)
    · have hf := zthen hf c24
      exact R_sub [1, 2] rfl (hB92 v1 M11 hf)
    · have hf := zelse hf c24
      refine R_aload_n X 1 dX10_stepFrom_58 rfl rfl ?_
      refine R_getI X (j := 9) lc_215 rfl inX10 (by decide) rfl rfl rfl wf_X10_116 dX10_stepFrom_59 ?_
      refine R_iload_n X 2 dX10_stepFrom_62 rfl rfl ?_
      obtain ⟨r14, M15, hc16, hf⟩ := zbnd_some hf
      refine R_callSi X (av := [.int (zI (M11 215 9)), .int (zI v1)]) (rest := []) (c_X10_has l D cas ad hi hc16) zy_X10_has wm_X10_122 rfl rfl ⟨Nat.le_of_ble_eq_true rfl, Nat.le_of_ble_eq_true rfl⟩ ⟨Nat.le_refl _, Nat.le_refl _⟩ (Nat.le_of_ble_eq_true rfl) dX10_stepFrom_63 ?_
      obtain ⟨hq17, hf⟩ := zgrd hf
      refine R_if_ne X 92 hq17 dX10_stepFrom_66 (by decide) (fun c23 => ?_) (fun c23 => ?_)
      · have hf := zelse hf c23
        exact R_sub [1, 2] rfl (hB92 v1 M15 hf)
      · have hf := zthen hf c23
        refine R_iload_n X 0 dX10_stepFrom_69 rfl rfl ?_
        obtain ⟨hq18, hf⟩ := zgrd hf
        refine R_if_lt X 92 hq18 dX10_stepFrom_70 (by decide) (fun c22 => ?_) (fun c22 => ?_)
        · have hf := zthen hf c22
          exact R_sub [1, 2] rfl (hB92 v1 M15 hf)
        · have hf := zelse hf c22
          refine R_iload_n X 0 dX10_stepFrom_73 rfl rfl ?_
          refine R_iload_n X 2 dX10_stepFrom_74 rfl rfl ?_
          obtain ⟨hq19, hf⟩ := zgrd hf
          refine R_icmp_eq X 92 ⟨hq18, hq19⟩ dX10_stepFrom_75 (by decide) (fun c21 => ?_) (fun c21 => ?_)
          · have hf := zthen hf c21
            exact R_sub [1, 2] rfl (hB92 v1 M15 hf)
          · have hf := zelse hf c21
            refine R_aload_n X 1 dX10_stepFrom_78 rfl rfl ?_
            refine R_dup X dX10_stepFrom_79 rfl ?_
            refine R_getI X (j := 9) lc_215 rfl inX10 (by decide) rfl rfl rfl wf_X10_116 dX10_stepFrom_80 ?_
            refine R_iconst X dX10_stepFrom_83 ?_
            refine R_iload_n X 2 dX10_stepFrom_84 rfl rfl ?_
            refine R_ishl X dX10_stepFrom_85 ?_
            refine R_ior X dX10_stepFrom_86 ?_
            obtain ⟨M20, eM20, hf⟩ := zlt_some hf
            refine R_put X (j := 9) lc_215 rfl inX10 tyX10_ok nmX10 (by decide) rfl rfl rfl wf_X10_116 rfl (by decide +kernel) (z_nI _) (z_fI _) dX10_stepFrom_87 ?_
            refine R_mem eM20 ?_
            refine R_iload_n X 0 dX10_stepFrom_90 rfl rfl ?_
            exact R_iret X hr hk0 dX10_stepFrom_91 hf
  · have hf := zelse hf c30
    refine R_aload_n X 0 dX10_stepFrom_9 rfl rfl ?_
    refine R_dup X dX10_stepFrom_10 rfl ?_
    refine R_getI X (j := 8) lc_215 rfl inX10 (by decide) rfl rfl rfl wf_X10_125 dX10_stepFrom_11 ?_
    refine R_iconst X dX10_stepFrom_14 ?_
    refine R_iadd X dX10_stepFrom_15 ?_
    obtain ⟨M25, eM25, hf⟩ := zlt_some hf
    refine R_put X (j := 8) lc_215 rfl inX10 tyX10_ok nmX10 (by decide) rfl rfl rfl wf_X10_125 rfl (by decide +kernel) (z_nI _) (z_fI _) dX10_stepFrom_16 ?_
    refine R_mem eM25 ?_
    refine R_aload_n X 0 dX10_stepFrom_19 rfl rfl ?_
    refine R_getR X (j := 0) 1 216 lc_215 rfl inX10 (by decide) rfl rfl (by decide) rfl rfl wf_X10_7 dX10_stepFrom_20 ?_
    refine R_sipush X dX10_stepFrom_23 (by decide +kernel) ?_
    refine R_iload_n X 1 dX10_stepFrom_26 rfl rfl ?_
    refine R_iload_n X 2 dX10_stepFrom_27 rfl rfl ?_
    obtain ⟨r26, M27, hc28, hf⟩ := zbnd_some hf
    refine R_callSi X (av := [.int (zI 160), .int (zI v1), .int (zI v2)]) (rest := [.ref (ad 216)]) (c_X10_at l D cas ad hi hc28) zy_X10_at wm_X10_70 rfl rfl ⟨Nat.le_of_ble_eq_true rfl, Nat.le_of_ble_eq_true rfl⟩ ⟨Nat.le_refl _, Nat.le_refl _⟩ (Nat.le_of_ble_eq_true rfl) dX10_stepFrom_28 ?_
    obtain ⟨hq29, hf⟩ := zgrd hf
    refine R_iald X lc_216 hq29 dX10_stepFrom_31 ?_
    refine R_iconst X dX10_stepFrom_32 ?_
    refine R_isub X dX10_stepFrom_33 ?_
    exact R_iret X hr hk0 dX10_stepFrom_34 hf
theorem dX10_findWay_0 : decode cX10_findWay 0 = .ok (.aload_n 0, 1) := by decide +kernel
theorem dX10_findWay_1 : decode cX10_findWay 1 = .ok (.iconst 0, 1) := by decide +kernel
theorem dX10_findWay_2 : decode cX10_findWay 2 = .ok (.putfield 113, 3) := by decide +kernel
theorem dX10_findWay_5 : decode cX10_findWay 5 = .ok (.aload_n 0, 1) := by decide +kernel
theorem dX10_findWay_6 : decode cX10_findWay 6 = .ok (.iconst 0, 1) := by decide +kernel
theorem dX10_findWay_7 : decode cX10_findWay 7 = .ok (.putfield 131, 3) := by decide +kernel
theorem dX10_findWay_10 : decode cX10_findWay 10 = .ok (.aload_n 0, 1) := by decide +kernel
theorem dX10_findWay_11 : decode cX10_findWay 11 = .ok (.iconst 0, 1) := by decide +kernel
theorem dX10_findWay_12 : decode cX10_findWay 12 = .ok (.putfield 125, 3) := by decide +kernel
theorem dX10_findWay_15 : decode cX10_findWay 15 = .ok (.aload_n 0, 1) := by decide +kernel
theorem dX10_findWay_16 : decode cX10_findWay 16 = .ok (.iconst 0, 1) := by decide +kernel
theorem dX10_findWay_17 : decode cX10_findWay 17 = .ok (.putfield 116, 3) := by decide +kernel
theorem dX10_findWay_20 : decode cX10_findWay 20 = .ok (.aload_n 0, 1) := by decide +kernel
theorem dX10_findWay_21 : decode cX10_findWay 21 = .ok (.iconst 0, 1) := by decide +kernel
theorem dX10_findWay_22 : decode cX10_findWay 22 = .ok (.putfield 119, 3) := by decide +kernel
theorem dX10_findWay_25 : decode cX10_findWay 25 = .ok (.aload_n 0, 1) := by decide +kernel
theorem dX10_findWay_26 : decode cX10_findWay 26 = .ok (.iconst 0, 1) := by decide +kernel
theorem dX10_findWay_27 : decode cX10_findWay 27 = .ok (.putfield 134, 3) := by decide +kernel
theorem dX10_findWay_30 : decode cX10_findWay 30 = .ok (.aload_n 0, 1) := by decide +kernel
theorem dX10_findWay_31 : decode cX10_findWay 31 = .ok (.getfield 7, 3) := by decide +kernel
theorem dX10_findWay_34 : decode cX10_findWay 34 = .ok (.sipush 756, 3) := by decide +kernel
theorem dX10_findWay_37 : decode cX10_findWay 37 = .ok (.bipush 16, 2) := by decide +kernel
theorem dX10_findWay_39 : decode cX10_findWay 39 = .ok (.iload_n 1, 1) := by decide +kernel
theorem dX10_findWay_40 : decode cX10_findWay 40 = .ok (.imul, 1) := by decide +kernel
theorem dX10_findWay_41 : decode cX10_findWay 41 = .ok (.iadd, 1) := by decide +kernel
theorem dX10_findWay_42 : decode cX10_findWay 42 = .ok (.iload_n 2, 1) := by decide +kernel
theorem dX10_findWay_43 : decode cX10_findWay 43 = .ok (.iadd, 1) := by decide +kernel
theorem dX10_findWay_44 : decode cX10_findWay 44 = .ok (.iaload, 1) := by decide +kernel
theorem dX10_findWay_45 : decode cX10_findWay 45 = .ok (.istore_n 3, 1) := by decide +kernel
theorem dX10_findWay_46 : decode cX10_findWay 46 = .ok (.aload_n 0, 1) := by decide +kernel
theorem dX10_findWay_47 : decode cX10_findWay 47 = .ok (.iload_n 3, 1) := by decide +kernel
theorem dX10_findWay_48 : decode cX10_findWay 48 = .ok (.invokevirtual 137, 3) := by decide +kernel
theorem dX10_findWay_51 : decode cX10_findWay 51 = .ok (.iload_n 3, 1) := by decide +kernel
theorem dX10_findWay_52 : decode cX10_findWay 52 = .ok (.aload_n 0, 1) := by decide +kernel
theorem dX10_findWay_53 : decode cX10_findWay 53 = .ok (.getfield 7, 3) := by decide +kernel
theorem dX10_findWay_56 : decode cX10_findWay 56 = .ok (.sipush 416, 3) := by decide +kernel
theorem dX10_findWay_59 : decode cX10_findWay 59 = .ok (.iload_n 2, 1) := by decide +kernel
theorem dX10_findWay_60 : decode cX10_findWay 60 = .ok (.iadd, 1) := by decide +kernel
theorem dX10_findWay_61 : decode cX10_findWay 61 = .ok (.iaload, 1) := by decide +kernel
theorem dX10_findWay_62 : decode cX10_findWay 62 = .ok (.if_icmp .eq 86, 3) := by decide +kernel
theorem dX10_findWay_65 : decode cX10_findWay 65 = .ok (.aload_n 0, 1) := by decide +kernel
theorem dX10_findWay_66 : decode cX10_findWay 66 = .ok (.iload_n 3, 1) := by decide +kernel
theorem dX10_findWay_67 : decode cX10_findWay 67 = .ok (.iload_n 2, 1) := by decide +kernel
theorem dX10_findWay_68 : decode cX10_findWay 68 = .ok (.invokevirtual 141, 3) := by decide +kernel
theorem dX10_findWay_71 : decode cX10_findWay 71 = .ok (.istore 4, 2) := by decide +kernel
theorem dX10_findWay_73 : decode cX10_findWay 73 = .ok (.aload_n 0, 1) := by decide +kernel
theorem dX10_findWay_74 : decode cX10_findWay 74 = .ok (.iload 4, 2) := by decide +kernel
theorem dX10_findWay_76 : decode cX10_findWay 76 = .ok (.bipush (-5), 2) := by decide +kernel
theorem dX10_findWay_78 : decode cX10_findWay 78 = .ok (.if_icmp .ne 7, 3) := by decide +kernel
theorem dX10_findWay_81 : decode cX10_findWay 81 = .ok (.iconst 1, 1) := by decide +kernel
theorem dX10_findWay_82 : decode cX10_findWay 82 = .ok (.goto 4, 3) := by decide +kernel
theorem dX10_findWay_85 : decode cX10_findWay 85 = .ok (.iconst 0, 1) := by decide +kernel
theorem dX10_findWay_86 : decode cX10_findWay 86 = .ok (.putfield 134, 3) := by decide +kernel
theorem dX10_findWay_89 : decode cX10_findWay 89 = .ok (.aload_n 0, 1) := by decide +kernel
theorem dX10_findWay_90 : decode cX10_findWay 90 = .ok (.dup, 1) := by decide +kernel
theorem dX10_findWay_91 : decode cX10_findWay 91 = .ok (.getfield 131, 3) := by decide +kernel
theorem dX10_findWay_94 : decode cX10_findWay 94 = .ok (.aload_n 0, 1) := by decide +kernel
theorem dX10_findWay_95 : decode cX10_findWay 95 = .ok (.getfield 134, 3) := by decide +kernel
theorem dX10_findWay_98 : decode cX10_findWay 98 = .ok (.ifCond .eq 14, 3) := by decide +kernel
theorem dX10_findWay_101 : decode cX10_findWay 101 = .ok (.aload_n 0, 1) := by decide +kernel
theorem dX10_findWay_102 : decode cX10_findWay 102 = .ok (.getfield 7, 3) := by decide +kernel
theorem dX10_findWay_105 : decode cX10_findWay 105 = .ok (.sipush 863, 3) := by decide +kernel
theorem dX10_findWay_108 : decode cX10_findWay 108 = .ok (.iaload, 1) := by decide +kernel
theorem dX10_findWay_109 : decode cX10_findWay 109 = .ok (.goto 4, 3) := by decide +kernel
theorem dX10_findWay_112 : decode cX10_findWay 112 = .ok (.iconst 1, 1) := by decide +kernel
theorem dX10_findWay_113 : decode cX10_findWay 113 = .ok (.iadd, 1) := by decide +kernel
theorem dX10_findWay_114 : decode cX10_findWay 114 = .ok (.putfield 131, 3) := by decide +kernel
theorem dX10_findWay_117 : decode cX10_findWay 117 = .ok (.aload_n 0, 1) := by decide +kernel
theorem dX10_findWay_118 : decode cX10_findWay 118 = .ok (.getfield 134, 3) := by decide +kernel
theorem dX10_findWay_121 : decode cX10_findWay 121 = .ok (.ifCond .eq 16, 3) := by decide +kernel
theorem dX10_findWay_124 : decode cX10_findWay 124 = .ok (.aload_n 0, 1) := by decide +kernel
theorem dX10_findWay_125 : decode cX10_findWay 125 = .ok (.getfield 7, 3) := by decide +kernel
theorem dX10_findWay_128 : decode cX10_findWay 128 = .ok (.sipush 416, 3) := by decide +kernel
theorem dX10_findWay_131 : decode cX10_findWay 131 = .ok (.iload_n 2, 1) := by decide +kernel
theorem dX10_findWay_132 : decode cX10_findWay 132 = .ok (.iadd, 1) := by decide +kernel
theorem dX10_findWay_133 : decode cX10_findWay 133 = .ok (.iaload, 1) := by decide +kernel
theorem dX10_findWay_134 : decode cX10_findWay 134 = .ok (.goto 5, 3) := by decide +kernel
theorem dX10_findWay_137 : decode cX10_findWay 137 = .ok (.iload 4, 2) := by decide +kernel
theorem dX10_findWay_139 : decode cX10_findWay 139 = .ok (.istore_n 3, 1) := by decide +kernel
theorem dX10_findWay_140 : decode cX10_findWay 140 = .ok (.aload_n 0, 1) := by decide +kernel
theorem dX10_findWay_141 : decode cX10_findWay 141 = .ok (.iload_n 3, 1) := by decide +kernel
theorem dX10_findWay_142 : decode cX10_findWay 142 = .ok (.invokevirtual 137, 3) := by decide +kernel
theorem dX10_findWay_145 : decode cX10_findWay 145 = .ok (.goto (-94), 3) := by decide +kernel
theorem dX10_findWay_148 : decode cX10_findWay 148 = .ok (.return_, 1) := by decide +kernel
set_option maxRecDepth 100000 in
set_option maxHeartbeats 4000000 in
theorem c_X10_findWay (l : Launch) (D : va_G) (cas : Nat → ClassId) (ad : Nat → Nat) (hi : zInj ad) {v1 : Int} {v2 : Int}  {r : Int} {M M' : Mem} (hf : f_X10_findWay v1 v2 M = some (r, M')) : zMv l D cas ad yX10_findWay cX10_findWay 5 3 70 [.ref (ad 215), .int (zI v1), .int (zI v2)] M M' := by
  refine zbody (by decide) (Nat.le_of_ble_eq_true rfl) hi ?_
  intro p e s m args below meth c X hr hk0
  have X : zX p s m args c cX10_findWay "ShardTrailsModel" 5 D cas ad (zA ad) := X
  have hB139 : ∀ (g51 : Int → Int → Mem → Option (Int × Mem)) (hg51 : ∀ (v2 v3 : Int) (M : Mem), g51 v2 v3 M = some (r, M') → WW p l e (zrm 3 70) s m args below meth c D cas ad (zA ad) 5 0 0 (MQ below (zQv D cas ad M') args s 0 0 (zA ad)) 51 [(0, .ref (ad 215)), (2, .int (zI v2)), (3, .int (zI v3))] [] M) (v2 t1 : Int) (M : Mem), f_X10_findWay_b139 g51 v2 t1 M = some (r, M') → WW p l e (zrm 3 70) s m args below meth c D cas ad (zA ad) 5 0 0 (MQ below (zQv D cas ad M') args s 0 0 (zA ad)) 139 [(0, .ref (ad 215)), (2, .int (zI v2))] [.int (zI t1)] M := by
    intro g51 hg51 v2 t1 M hf
    unfold f_X10_findWay_b139 at hf
    refine R_istore_n X (lv' := [(3, .int (zI t1)), (0, .ref (ad 215)), (2, .int (zI v2))]) dX10_findWay_139 rfl (by decide) rfl ?_
    refine R_aload_n X 1 dX10_findWay_140 rfl rfl ?_
    refine R_iload_n X 0 dX10_findWay_141 rfl rfl ?_
    obtain ⟨r29, M30, hc31, hf⟩ := zbnd_some hf
    refine R_callVv X (av := [.int (zI t1)]) (rest := []) (c_X10_comeTo l D cas ad hi hc31) zy_X10_comeTo lc_215 rfl rfl wm_X10_137 rfl rfl ⟨Nat.le_of_ble_eq_true rfl, Nat.le_of_ble_eq_true rfl⟩ ⟨Nat.le_refl _, Nat.le_refl _⟩ (Nat.le_of_ble_eq_true rfl) dX10_findWay_142 ?_
    refine R_goto X 51 dX10_findWay_145 (by decide) ?_
    exact R_sub [1, 2, 0] rfl (hg51 v2 t1 M30 hf)
  have hB113 : ∀ (g51 : Int → Int → Mem → Option (Int × Mem)) (hg51 : ∀ (v2 v3 : Int) (M : Mem), g51 v2 v3 M = some (r, M') → WW p l e (zrm 3 70) s m args below meth c D cas ad (zA ad) 5 0 0 (MQ below (zQv D cas ad M') args s 0 0 (zA ad)) 51 [(0, .ref (ad 215)), (2, .int (zI v2)), (3, .int (zI v3))] [] M) (v2 v4 t3 t2 : Int) (M : Mem), f_X10_findWay_b113 g51 v2 v4 t3 t2 M = some (r, M') → WW p l e (zrm 3 70) s m args below meth c D cas ad (zA ad) 5 0 0 (MQ below (zQv D cas ad M') args s 0 0 (zA ad)) 113 [(0, .ref (ad 215)), (2, .int (zI v2)), (4, .int (zI v4))] [.int (zI t3), .int (zI t2), .ref (ad 215)] M := by
    intro g51 hg51 v2 v4 t3 t2 M hf
    unfold f_X10_findWay_b113 at hf
    refine R_iadd X dX10_findWay_113 ?_
    obtain ⟨M25, eM25, hf⟩ := zlt_some hf
    refine R_put X (j := 7) lc_215 rfl inX10 tyX10_ok nmX10 (by decide) rfl rfl rfl wf_X10_131 rfl (by decide +kernel) (z_nI _) (z_fI _) dX10_findWay_114 ?_
    refine R_mem eM25 ?_
    refine R_aload_n X 0 dX10_findWay_117 rfl rfl ?_
    refine R_getI X (j := 11) lc_215 rfl inX10 (by decide) rfl rfl rfl wf_X10_134 dX10_findWay_118 ?_
    obtain ⟨hq26, hf⟩ := zgrd hf
    refine R_if_eq X 137 hq26 dX10_findWay_121 (by decide) (fun c28 => ?_) (fun c28 => ?_)
    · have hf := zthen hf c28
      refine R_iload X 2 dX10_findWay_137 rfl ?_
      exact R_sub [0, 1] rfl (hB139 g51 hg51 v2 v4 M25 hf)
    · have hf := zelse hf c28
      refine R_aload_n X 0 dX10_findWay_124 rfl rfl ?_
      refine R_getR X (j := 0) 1 216 lc_215 rfl inX10 (by decide) rfl rfl (by decide) rfl rfl wf_X10_7 dX10_findWay_125 ?_
      refine R_sipush X dX10_findWay_128 (by decide +kernel) ?_
      refine R_iload_n X 1 dX10_findWay_131 rfl rfl ?_
      refine R_iadd X dX10_findWay_132 ?_
      obtain ⟨hq27, hf⟩ := zgrd hf
      refine R_iald X lc_216 hq27 dX10_findWay_133 ?_
      refine R_goto X 139 dX10_findWay_134 (by decide) ?_
      exact R_sub [0, 1] rfl (hB139 g51 hg51 v2 (M25 216 (416 + v2).toNat) M25 hf)
  have hB86 : ∀ (g51 : Int → Int → Mem → Option (Int × Mem)) (hg51 : ∀ (v2 v3 : Int) (M : Mem), g51 v2 v3 M = some (r, M') → WW p l e (zrm 3 70) s m args below meth c D cas ad (zA ad) 5 0 0 (MQ below (zQv D cas ad M') args s 0 0 (zA ad)) 51 [(0, .ref (ad 215)), (2, .int (zI v2)), (3, .int (zI v3))] [] M) (v2 v4 t2 : Int) (M : Mem), f_X10_findWay_b86 g51 v2 v4 t2 M = some (r, M') → WW p l e (zrm 3 70) s m args below meth c D cas ad (zA ad) 5 0 0 (MQ below (zQv D cas ad M') args s 0 0 (zA ad)) 86 [(0, .ref (ad 215)), (2, .int (zI v2)), (4, .int (zI v4))] [.int (zI t2), .ref (ad 215)] M := by
    intro g51 hg51 v2 v4 t2 M hf
    unfold f_X10_findWay_b86 at hf
    obtain ⟨hq21, hf⟩ := zgrd hf
    obtain ⟨M22, eM22, hf⟩ := zlt_some hf
    refine R_put X (j := 11) lc_215 rfl inX10 tyX10_ok nmX10 (by decide) rfl rfl rfl wf_X10_134 rfl (by decide +kernel) (z_nZ hq21) (z_fZ hq21) dX10_findWay_86 ?_
    refine R_mem eM22 ?_
    refine R_aload_n X 0 dX10_findWay_89 rfl rfl ?_
    refine R_dup X dX10_findWay_90 rfl ?_
    refine R_getI X (j := 7) lc_215 rfl inX10 (by decide) rfl rfl rfl wf_X10_131 dX10_findWay_91 ?_
    refine R_aload_n X 0 dX10_findWay_94 rfl rfl ?_
    refine R_getI X (j := 11) lc_215 rfl inX10 (by decide) rfl rfl rfl wf_X10_134 dX10_findWay_95 ?_
    obtain ⟨hq23, hf⟩ := zgrd hf
    refine R_if_eq X 112 hq23 dX10_findWay_98 (by decide) (fun c24 => ?_) (fun c24 => ?_)
    · have hf := zthen hf c24
      refine R_iconst X dX10_findWay_112 ?_
      exact R_sub [0, 1, 2] rfl (hB113 g51 hg51 v2 v4 1 (M22 215 7) M22 hf)
    · have hf := zelse hf c24
      refine R_aload_n X 0 dX10_findWay_101 rfl rfl ?_
      refine R_getR X (j := 0) 1 216 lc_215 rfl inX10 (by decide) rfl rfl (by decide) rfl rfl wf_X10_7 dX10_findWay_102 ?_
      refine R_sipush X dX10_findWay_105 (by decide +kernel) ?_
      refine R_iald X lc_216 (by decide) dX10_findWay_108 ?_
      refine R_goto X 113 dX10_findWay_109 (by decide) ?_
      exact R_sub [0, 1, 2] rfl (hB113 g51 hg51 v2 v4 (M22 216 863) (M22 215 7) M22 hf)
  have hB51 : ∀ (n : Nat) (v2 v3 : Int) (M : Mem), f_X10_findWay_b51 n v2 v3 M = some (r, M') → WW p l e (zrm 3 70) s m args below meth c D cas ad (zA ad) 5 0 0 (MQ below (zQv D cas ad M') args s 0 0 (zA ad)) 51 [(0, .ref (ad 215)), (2, .int (zI v2)), (3, .int (zI v3))] [] M := by
    intro n
    induction n with
    | zero => intro v2 v3 M hf; exact absurd hf (by unfold f_X10_findWay_b51; simp)
    | succ n ih =>
      intro v2 v3 M hf
      unfold f_X10_findWay_b51 at hf
      refine R_iload_n X 2 dX10_findWay_51 rfl rfl ?_
      refine R_aload_n X 0 dX10_findWay_52 rfl rfl ?_
      refine R_getR X (j := 0) 1 216 lc_215 rfl inX10 (by decide) rfl rfl (by decide) rfl rfl wf_X10_7 dX10_findWay_53 ?_
      refine R_sipush X dX10_findWay_56 (by decide +kernel) ?_
      refine R_iload_n X 1 dX10_findWay_59 rfl rfl ?_
      refine R_iadd X dX10_findWay_60 ?_
      obtain ⟨hq12, hf⟩ := zgrd hf
      refine R_iald X lc_216 hq12 dX10_findWay_61 ?_
      obtain ⟨hq13, hf⟩ := zgrd hf
      obtain ⟨hq14, hf⟩ := zgrd hf
      refine R_icmp_eq X 148 ⟨hq13, hq14⟩ dX10_findWay_62 (by decide) (fun c20 => ?_) (fun c20 => ?_)
      · have hf := zthen hf c20
        exact R_vret X hr hk0 dX10_findWay_148 hf
      · have hf := zelse hf c20
        refine R_aload_n X 0 dX10_findWay_65 rfl rfl ?_
        refine R_iload_n X 2 dX10_findWay_66 rfl rfl ?_
        refine R_iload_n X 1 dX10_findWay_67 rfl rfl ?_
        obtain ⟨r15, M16, hc17, hf⟩ := zbnd_some hf
        refine R_callVi X (av := [.int (zI v3), .int (zI v2)]) (rest := []) (c_X10_stepFrom l D cas ad hi hc17) zy_X10_stepFrom lc_215 rfl rfl wm_X10_141 rfl rfl ⟨Nat.le_of_ble_eq_true rfl, Nat.le_of_ble_eq_true rfl⟩ ⟨Nat.le_refl _, Nat.le_refl _⟩ (Nat.le_of_ble_eq_true rfl) dX10_findWay_68 ?_
        refine R_istore X (lv' := [(4, .int (zI r15)), (0, .ref (ad 215)), (2, .int (zI v2)), (3, .int (zI v3))]) dX10_findWay_71 (by decide) rfl ?_
        refine R_aload_n X 1 dX10_findWay_73 rfl rfl ?_
        refine R_iload X 0 dX10_findWay_74 rfl ?_
        refine R_bipush X dX10_findWay_76 (by decide +kernel) ?_
        obtain ⟨hq18, hf⟩ := zgrd hf
        refine R_icmp_ne X 85 ⟨hq18, (by decide)⟩ dX10_findWay_78 (by decide) (fun c19 => ?_) (fun c19 => ?_)
        · have hf := zelse hf c19
          refine R_iconst X dX10_findWay_85 ?_
          exact R_sub [1, 2, 0] rfl (hB86 (f_X10_findWay_b51 n) ih v2 r15 0 M16 hf)
        · have hf := zthen hf c19
          refine R_iconst X dX10_findWay_81 ?_
          refine R_goto X 86 dX10_findWay_82 (by decide) ?_
          exact R_sub [1, 2, 0] rfl (hB86 (f_X10_findWay_b51 n) ih v2 r15 1 M16 hf)
  unfold f_X10_findWay at hf
  refine (?_ : WW p l e (zrm 3 70) s m args below meth c D cas ad (zA ad) 5 0 0 (MQ below (zQv D cas ad M') args s 0 0 (zA ad)) 0 [(0, .ref (ad 215)), (1, .int (zI v1)), (2, .int (zI v2))] [] M)
  refine R_aload_n X 0 dX10_findWay_0 rfl rfl ?_
  refine R_iconst X dX10_findWay_1 ?_
  obtain ⟨M1, eM1, hf⟩ := zlt_some hf
  refine R_put X (j := 6) lc_215 rfl inX10 tyX10_ok nmX10 (by decide) rfl rfl rfl wf_X10_113 rfl (by decide +kernel) (z_nI _) (z_fI _) dX10_findWay_2 ?_
  refine R_mem eM1 ?_
  refine R_aload_n X 0 dX10_findWay_5 rfl rfl ?_
  refine R_iconst X dX10_findWay_6 ?_
  obtain ⟨M2, eM2, hf⟩ := zlt_some hf
  refine R_put X (j := 7) lc_215 rfl inX10 tyX10_ok nmX10 (by decide) rfl rfl rfl wf_X10_131 rfl (by decide +kernel) (z_nI _) (z_fI _) dX10_findWay_7 ?_
  refine R_mem eM2 ?_
  refine R_aload_n X 0 dX10_findWay_10 rfl rfl ?_
  refine R_iconst X dX10_findWay_11 ?_
  obtain ⟨M3, eM3, hf⟩ := zlt_some hf
  refine R_put X (j := 8) lc_215 rfl inX10 tyX10_ok nmX10 (by decide) rfl rfl rfl wf_X10_125 rfl (by decide +kernel) (z_nI _) (z_fI _) dX10_findWay_12 ?_
  refine R_mem eM3 ?_
  refine R_aload_n X 0 dX10_findWay_15 rfl rfl ?_
  refine R_iconst X dX10_findWay_16 ?_
  obtain ⟨M4, eM4, hf⟩ := zlt_some hf
  refine R_put X (j := 9) lc_215 rfl inX10 tyX10_ok nmX10 (by decide) rfl rfl rfl wf_X10_116 rfl (by decide +kernel) (z_nI _) (z_fI _) dX10_findWay_17 ?_
  refine R_mem eM4 ?_
  refine R_aload_n X 0 dX10_findWay_20 rfl rfl ?_
  refine R_iconst X dX10_findWay_21 ?_
  obtain ⟨M5, eM5, hf⟩ := zlt_some hf
  refine R_put X (j := 10) lc_215 rfl inX10 tyX10_ok nmX10 (by decide) rfl rfl rfl wf_X10_119 rfl (by decide +kernel) (z_nI _) (z_fI _) dX10_findWay_22 ?_
  refine R_mem eM5 ?_
  refine R_aload_n X 0 dX10_findWay_25 rfl rfl ?_
  refine R_iconst X dX10_findWay_26 ?_
  obtain ⟨M6, eM6, hf⟩ := zlt_some hf
  refine R_put X (j := 11) lc_215 rfl inX10 tyX10_ok nmX10 (by decide) rfl rfl rfl wf_X10_134 rfl (by decide +kernel) (z_nZ (Or.inl rfl)) (z_fZ (Or.inl rfl)) dX10_findWay_27 ?_
  refine R_mem eM6 ?_
  refine R_aload_n X 0 dX10_findWay_30 rfl rfl ?_
  refine R_getR X (j := 0) 1 216 lc_215 rfl inX10 (by decide) rfl rfl (by decide) rfl rfl wf_X10_7 dX10_findWay_31 ?_
  refine R_sipush X dX10_findWay_34 (by decide +kernel) ?_
  refine R_bipush X dX10_findWay_37 (by decide +kernel) ?_
  refine R_iload_n X 1 dX10_findWay_39 rfl rfl ?_
  refine R_imul X dX10_findWay_40 ?_
  refine R_iadd X dX10_findWay_41 ?_
  refine R_iload_n X 2 dX10_findWay_42 rfl rfl ?_
  refine R_iadd X dX10_findWay_43 ?_
  obtain ⟨hq7, hf⟩ := zgrd hf
  refine R_iald X lc_216 hq7 dX10_findWay_44 ?_
  obtain ⟨x8, ex8, hf⟩ := zlt_some hf
  refine R_istore_nX X (lv' := [(3, .int (zI x8)), (0, .ref (ad 215)), (1, .int (zI v1)), (2, .int (zI v2))]) ex8 dX10_findWay_45 rfl (by decide) rfl ?_
  refine R_aload_n X 1 dX10_findWay_46 rfl rfl ?_
  refine R_iload_n X 0 dX10_findWay_47 rfl rfl ?_
  obtain ⟨r9, M10, hc11, hf⟩ := zbnd_some hf
  refine R_callVv X (av := [.int (zI x8)]) (rest := []) (c_X10_comeTo l D cas ad hi hc11) zy_X10_comeTo lc_215 rfl rfl wm_X10_137 rfl rfl ⟨Nat.le_of_ble_eq_true rfl, Nat.le_of_ble_eq_true rfl⟩ ⟨Nat.le_refl _, Nat.le_refl _⟩ (Nat.le_of_ble_eq_true rfl) dX10_findWay_48 ?_
  exact R_sub [1, 3, 0] rfl (hB51 100000 v2 x8 M10 hf)
theorem dX10_grow_0 : decode cX10_grow 0 = .ok (.iconst 0, 1) := by decide +kernel
theorem dX10_grow_1 : decode cX10_grow 1 = .ok (.istore_n 1, 1) := by decide +kernel
theorem dX10_grow_2 : decode cX10_grow 2 = .ok (.iload_n 1, 1) := by decide +kernel
theorem dX10_grow_3 : decode cX10_grow 3 = .ok (.aload_n 0, 1) := by decide +kernel
theorem dX10_grow_4 : decode cX10_grow 4 = .ok (.getfield 7, 3) := by decide +kernel
theorem dX10_grow_7 : decode cX10_grow 7 = .ok (.sipush 863, 3) := by decide +kernel
theorem dX10_grow_10 : decode cX10_grow 10 = .ok (.iaload, 1) := by decide +kernel
theorem dX10_grow_11 : decode cX10_grow 11 = .ok (.if_icmp .ge 99, 3) := by decide +kernel
theorem dX10_grow_14 : decode cX10_grow 14 = .ok (.iconst 0, 1) := by decide +kernel
theorem dX10_grow_15 : decode cX10_grow 15 = .ok (.istore_n 2, 1) := by decide +kernel
theorem dX10_grow_16 : decode cX10_grow 16 = .ok (.iload_n 2, 1) := by decide +kernel
theorem dX10_grow_17 : decode cX10_grow 17 = .ok (.bipush 16, 2) := by decide +kernel
theorem dX10_grow_19 : decode cX10_grow 19 = .ok (.if_icmp .ge 85, 3) := by decide +kernel
theorem dX10_grow_22 : decode cX10_grow 22 = .ok (.aload_n 0, 1) := by decide +kernel
theorem dX10_grow_23 : decode cX10_grow 23 = .ok (.iload_n 1, 1) := by decide +kernel
theorem dX10_grow_24 : decode cX10_grow 24 = .ok (.invokevirtual 38, 3) := by decide +kernel
theorem dX10_grow_27 : decode cX10_grow 27 = .ok (.ifCond .ne 77, 3) := by decide +kernel
theorem dX10_grow_30 : decode cX10_grow 30 = .ok (.aload_n 0, 1) := by decide +kernel
theorem dX10_grow_31 : decode cX10_grow 31 = .ok (.iload_n 1, 1) := by decide +kernel
theorem dX10_grow_32 : decode cX10_grow 32 = .ok (.iload_n 2, 1) := by decide +kernel
theorem dX10_grow_33 : decode cX10_grow 33 = .ok (.invokevirtual 80, 3) := by decide +kernel
theorem dX10_grow_36 : decode cX10_grow 36 = .ok (.ifCond .eq 62, 3) := by decide +kernel
theorem dX10_grow_39 : decode cX10_grow 39 = .ok (.aload_n 0, 1) := by decide +kernel
theorem dX10_grow_40 : decode cX10_grow 40 = .ok (.getfield 7, 3) := by decide +kernel
theorem dX10_grow_43 : decode cX10_grow 43 = .ok (.sipush 862, 3) := by decide +kernel
theorem dX10_grow_46 : decode cX10_grow 46 = .ok (.iaload, 1) := by decide +kernel
theorem dX10_grow_47 : decode cX10_grow 47 = .ok (.aload_n 0, 1) := by decide +kernel
theorem dX10_grow_48 : decode cX10_grow 48 = .ok (.getfield 7, 3) := by decide +kernel
theorem dX10_grow_51 : decode cX10_grow 51 = .ok (.sipush 288, 3) := by decide +kernel
theorem dX10_grow_54 : decode cX10_grow 54 = .ok (.iload_n 1, 1) := by decide +kernel
theorem dX10_grow_55 : decode cX10_grow 55 = .ok (.iload_n 2, 1) := by decide +kernel
theorem dX10_grow_56 : decode cX10_grow 56 = .ok (.invokestatic 70, 3) := by decide +kernel
theorem dX10_grow_59 : decode cX10_grow 59 = .ok (.iaload, 1) := by decide +kernel
theorem dX10_grow_60 : decode cX10_grow 60 = .ok (.isub, 1) := by decide +kernel
theorem dX10_grow_61 : decode cX10_grow 61 = .ok (.aload_n 0, 1) := by decide +kernel
theorem dX10_grow_62 : decode cX10_grow 62 = .ok (.getfield 7, 3) := by decide +kernel
theorem dX10_grow_65 : decode cX10_grow 65 = .ok (.sipush 857, 3) := by decide +kernel
theorem dX10_grow_68 : decode cX10_grow 68 = .ok (.iaload, 1) := by decide +kernel
theorem dX10_grow_69 : decode cX10_grow 69 = .ok (.if_icmp .lt 29, 3) := by decide +kernel
theorem dX10_grow_72 : decode cX10_grow 72 = .ok (.aload_n 0, 1) := by decide +kernel
theorem dX10_grow_73 : decode cX10_grow 73 = .ok (.getfield 7, 3) := by decide +kernel
theorem dX10_grow_76 : decode cX10_grow 76 = .ok (.sipush 160, 3) := by decide +kernel
theorem dX10_grow_79 : decode cX10_grow 79 = .ok (.iload_n 1, 1) := by decide +kernel
theorem dX10_grow_80 : decode cX10_grow 80 = .ok (.iload_n 2, 1) := by decide +kernel
theorem dX10_grow_81 : decode cX10_grow 81 = .ok (.invokestatic 70, 3) := by decide +kernel
theorem dX10_grow_84 : decode cX10_grow 84 = .ok (.iconst 0, 1) := by decide +kernel
theorem dX10_grow_85 : decode cX10_grow 85 = .ok (.iastore, 1) := by decide +kernel
theorem dX10_grow_86 : decode cX10_grow 86 = .ok (.aload_n 0, 1) := by decide +kernel
theorem dX10_grow_87 : decode cX10_grow 87 = .ok (.getfield 7, 3) := by decide +kernel
theorem dX10_grow_90 : decode cX10_grow 90 = .ok (.sipush 868, 3) := by decide +kernel
theorem dX10_grow_93 : decode cX10_grow 93 = .ok (.dup2, 1) := by decide +kernel
theorem dX10_grow_94 : decode cX10_grow 94 = .ok (.iaload, 1) := by decide +kernel
theorem dX10_grow_95 : decode cX10_grow 95 = .ok (.iconst 1, 1) := by decide +kernel
theorem dX10_grow_96 : decode cX10_grow 96 = .ok (.iadd, 1) := by decide +kernel
theorem dX10_grow_97 : decode cX10_grow 97 = .ok (.iastore, 1) := by decide +kernel
theorem dX10_grow_98 : decode cX10_grow 98 = .ok (.iinc 2 1, 3) := by decide +kernel
theorem dX10_grow_101 : decode cX10_grow 101 = .ok (.goto (-85), 3) := by decide +kernel
theorem dX10_grow_104 : decode cX10_grow 104 = .ok (.iinc 1 1, 3) := by decide +kernel
theorem dX10_grow_107 : decode cX10_grow 107 = .ok (.goto (-105), 3) := by decide +kernel
theorem dX10_grow_110 : decode cX10_grow 110 = .ok (.return_, 1) := by decide +kernel
set_option maxRecDepth 100000 in
set_option maxHeartbeats 4000000 in
theorem c_X10_grow (l : Launch) (D : va_G) (cas : Nat → ClassId) (ad : Nat → Nat) (hi : zInj ad)   {r : Int} {M M' : Mem} (hf : f_X10_grow M = some (r, M')) : zMv l D cas ad yX10_grow cX10_grow 3 2 44 [.ref (ad 215)] M M' := by
  refine zbody (by decide) (Nat.le_of_ble_eq_true rfl) hi ?_
  intro p e s m args below meth c X hr hk0
  have X : zX p s m args c cX10_grow "ShardTrailsModel" 3 D cas ad (zA ad) := X
  have hB98 : ∀ (g2 : Int → Mem → Option (Int × Mem)) (hg2 : ∀ (v1 : Int) (M : Mem), g2 v1 M = some (r, M') → WW p l e (zrm 2 44) s m args below meth c D cas ad (zA ad) 3 0 0 (MQ below (zQv D cas ad M') args s 0 0 (zA ad)) 2 [(0, .ref (ad 215)), (1, .int (zI v1))] [] M) (g16 : Int → Int → Mem → Option (Int × Mem)) (hg16 : ∀ (v1 v2 : Int) (M : Mem), g16 v1 v2 M = some (r, M') → WW p l e (zrm 2 44) s m args below meth c D cas ad (zA ad) 3 0 0 (MQ below (zQv D cas ad M') args s 0 0 (zA ad)) 16 [(0, .ref (ad 215)), (1, .int (zI v1)), (2, .int (zI v2))] [] M) (v1 v2 : Int) (M : Mem), f_X10_grow_b98 g2 g16 v1 v2 M = some (r, M') → WW p l e (zrm 2 44) s m args below meth c D cas ad (zA ad) 3 0 0 (MQ below (zQv D cas ad M') args s 0 0 (zA ad)) 98 [(0, .ref (ad 215)), (1, .int (zI v1)), (2, .int (zI v2))] [] M := by
    intro g2 hg2 g16 hg16 v1 v2 M hf
    unfold f_X10_grow_b98 at hf
    refine R_iinc X (lv' := [(2, .int (zI (v2 + 1))), (0, .ref (ad 215)), (1, .int (zI v1))]) 2 dX10_grow_98 rfl (by decide) rfl ?_
    refine R_goto X 16 dX10_grow_101 (by decide) ?_
    exact R_sub [1, 2, 0] rfl (hg16 v1 (v2 + 1) M hf)
  have hB104 : ∀ (g2 : Int → Mem → Option (Int × Mem)) (hg2 : ∀ (v1 : Int) (M : Mem), g2 v1 M = some (r, M') → WW p l e (zrm 2 44) s m args below meth c D cas ad (zA ad) 3 0 0 (MQ below (zQv D cas ad M') args s 0 0 (zA ad)) 2 [(0, .ref (ad 215)), (1, .int (zI v1))] [] M) (v1 : Int) (M : Mem), f_X10_grow_b104 g2 v1 M = some (r, M') → WW p l e (zrm 2 44) s m args below meth c D cas ad (zA ad) 3 0 0 (MQ below (zQv D cas ad M') args s 0 0 (zA ad)) 104 [(0, .ref (ad 215)), (1, .int (zI v1))] [] M := by
    intro g2 hg2 v1 M hf
    unfold f_X10_grow_b104 at hf
    refine R_iinc X (lv' := [(1, .int (zI (v1 + 1))), (0, .ref (ad 215))]) 1 dX10_grow_104 rfl (by decide) rfl ?_
    refine R_goto X 2 dX10_grow_107 (by decide) ?_
    exact R_sub [1, 0] rfl (hg2 (v1 + 1) M hf)
  have hB16 : ∀ (g2 : Int → Mem → Option (Int × Mem)) (hg2 : ∀ (v1 : Int) (M : Mem), g2 v1 M = some (r, M') → WW p l e (zrm 2 44) s m args below meth c D cas ad (zA ad) 3 0 0 (MQ below (zQv D cas ad M') args s 0 0 (zA ad)) 2 [(0, .ref (ad 215)), (1, .int (zI v1))] [] M) (n : Nat) (v1 v2 : Int) (M : Mem), f_X10_grow_b16 g2 n v1 v2 M = some (r, M') → WW p l e (zrm 2 44) s m args below meth c D cas ad (zA ad) 3 0 0 (MQ below (zQv D cas ad M') args s 0 0 (zA ad)) 16 [(0, .ref (ad 215)), (1, .int (zI v1)), (2, .int (zI v2))] [] M := by
    intro g2 hg2 n
    induction n with
    | zero => intro v1 v2 M hf; exact absurd hf (by unfold f_X10_grow_b16; simp)
    | succ n ih =>
      intro v1 v2 M hf
      unfold f_X10_grow_b16 at hf
      refine R_iload_n X 2 dX10_grow_16 rfl rfl ?_
      refine R_bipush X dX10_grow_17 (by decide +kernel) ?_
      obtain ⟨hq4, hf⟩ := zgrd hf
      refine R_icmp_ge X 104 ⟨hq4, (by decide)⟩ dX10_grow_19 (by decide) (fun c28 => ?_) (fun c28 => ?_)
      · have hf := zthen hf c28
        exact R_sub [0, 1] rfl (hB104 g2 hg2 v1 M hf)
      · have hf := zelse hf c28
        refine R_aload_n X 0 dX10_grow_22 rfl rfl ?_
        refine R_iload_n X 1 dX10_grow_23 rfl rfl ?_
        obtain ⟨r5, M6, hc7, hf⟩ := zbnd_some hf
        refine R_callVi X (av := [.int (zI v1)]) (rest := []) (c_X10_hasInn l D cas ad hi hc7) zy_X10_hasInn lc_215 rfl rfl wm_X10_38 rfl rfl ⟨Nat.le_of_ble_eq_true rfl, Nat.le_of_ble_eq_true rfl⟩ ⟨Nat.le_refl _, Nat.le_refl _⟩ (Nat.le_of_ble_eq_true rfl) dX10_grow_24 ?_
        obtain ⟨hq8, hf⟩ := zgrd hf
        refine R_if_ne X 104 hq8 dX10_grow_27 (by decide) (fun c27 => ?_) (fun c27 => ?_)
        · have hf := zelse hf c27
          exact R_sub [0, 1] rfl (hB104 g2 hg2 v1 M6 hf)
        · have hf := zthen hf c27
          refine R_aload_n X 0 dX10_grow_30 rfl rfl ?_
          refine R_iload_n X 1 dX10_grow_31 rfl rfl ?_
          refine R_iload_n X 2 dX10_grow_32 rfl rfl ?_
          obtain ⟨r9, M10, hc11, hf⟩ := zbnd_some hf
          refine R_callVi X (av := [.int (zI v1), .int (zI v2)]) (rest := []) (c_X10_hasTrack l D cas ad hi hc11) zy_X10_hasTrack lc_215 rfl rfl wm_X10_80 rfl rfl ⟨Nat.le_of_ble_eq_true rfl, Nat.le_of_ble_eq_true rfl⟩ ⟨Nat.le_refl _, Nat.le_refl _⟩ (Nat.le_of_ble_eq_true rfl) dX10_grow_33 ?_
          obtain ⟨hq12, hf⟩ := zgrd hf
          refine R_if_eq X 98 hq12 dX10_grow_36 (by decide) (fun c26 => ?_) (fun c26 => ?_)
          · have hf := zthen hf c26
            exact R_sub [0, 1, 2] rfl (hB98 g2 hg2 (f_X10_grow_b16 g2 n) ih v1 v2 M10 hf)
          · have hf := zelse hf c26
            refine R_aload_n X 0 dX10_grow_39 rfl rfl ?_
            refine R_getR X (j := 0) 1 216 lc_215 rfl inX10 (by decide) rfl rfl (by decide) rfl rfl wf_X10_7 dX10_grow_40 ?_
            refine R_sipush X dX10_grow_43 (by decide +kernel) ?_
            refine R_iald X lc_216 (by decide) dX10_grow_46 ?_
            refine R_aload_n X 0 dX10_grow_47 rfl rfl ?_
            refine R_getR X (j := 0) 1 216 lc_215 rfl inX10 (by decide) rfl rfl (by decide) rfl rfl wf_X10_7 dX10_grow_48 ?_
            refine R_sipush X dX10_grow_51 (by decide +kernel) ?_
            refine R_iload_n X 1 dX10_grow_54 rfl rfl ?_
            refine R_iload_n X 2 dX10_grow_55 rfl rfl ?_
            obtain ⟨r13, M14, hc15, hf⟩ := zbnd_some hf
            refine R_callSi X (av := [.int (zI 288), .int (zI v1), .int (zI v2)]) (rest := [.ref (ad 216), .int (zI (M10 216 862))]) (c_X10_at l D cas ad hi hc15) zy_X10_at wm_X10_70 rfl rfl ⟨Nat.le_of_ble_eq_true rfl, Nat.le_of_ble_eq_true rfl⟩ ⟨Nat.le_refl _, Nat.le_refl _⟩ (Nat.le_of_ble_eq_true rfl) dX10_grow_56 ?_
            obtain ⟨hq16, hf⟩ := zgrd hf
            refine R_iald X lc_216 hq16 dX10_grow_59 ?_
            refine R_isub X dX10_grow_60 ?_
            refine R_aload_n X 0 dX10_grow_61 rfl rfl ?_
            refine R_getR X (j := 0) 1 216 lc_215 rfl inX10 (by decide) rfl rfl (by decide) rfl rfl wf_X10_7 dX10_grow_62 ?_
            refine R_sipush X dX10_grow_65 (by decide +kernel) ?_
            refine R_iald X lc_216 (by decide) dX10_grow_68 ?_
            obtain ⟨hq17, hf⟩ := zgrd hf
            obtain ⟨hq18, hf⟩ := zgrd hf
            refine R_icmp_lt X 98 ⟨hq17, hq18⟩ dX10_grow_69 (by decide) (fun c25 => ?_) (fun c25 => ?_)
            · have hf := zthen hf c25
              exact R_sub [0, 1, 2] rfl (hB98 g2 hg2 (f_X10_grow_b16 g2 n) ih v1 v2 M14 hf)
            · have hf := zelse hf c25
              refine R_aload_n X 0 dX10_grow_72 rfl rfl ?_
              refine R_getR X (j := 0) 1 216 lc_215 rfl inX10 (by decide) rfl rfl (by decide) rfl rfl wf_X10_7 dX10_grow_73 ?_
              refine R_sipush X dX10_grow_76 (by decide +kernel) ?_
              refine R_iload_n X 1 dX10_grow_79 rfl rfl ?_
              refine R_iload_n X 2 dX10_grow_80 rfl rfl ?_
              obtain ⟨r19, M20, hc21, hf⟩ := zbnd_some hf
              refine R_callSi X (av := [.int (zI 160), .int (zI v1), .int (zI v2)]) (rest := [.ref (ad 216)]) (c_X10_at l D cas ad hi hc21) zy_X10_at wm_X10_70 rfl rfl ⟨Nat.le_of_ble_eq_true rfl, Nat.le_of_ble_eq_true rfl⟩ ⟨Nat.le_refl _, Nat.le_refl _⟩ (Nat.le_of_ble_eq_true rfl) dX10_grow_81 ?_
              refine R_iconst X dX10_grow_84 ?_
              obtain ⟨hq22, hf⟩ := zgrd hf
              obtain ⟨M23, eM23, hf⟩ := zlt_some hf
              refine R_iast X lc_216 hq22 dX10_grow_85 ?_
              refine R_mem eM23 ?_
              refine R_aload_n X 0 dX10_grow_86 rfl rfl ?_
              refine R_getR X (j := 0) 1 216 lc_215 rfl inX10 (by decide) rfl rfl (by decide) rfl rfl wf_X10_7 dX10_grow_87 ?_
              refine R_sipush X dX10_grow_90 (by decide +kernel) ?_
              refine R_dup2 X dX10_grow_93 rfl rfl ?_
              refine R_iald X lc_216 (by decide) dX10_grow_94 ?_
              refine R_iconst X dX10_grow_95 ?_
              refine R_iadd X dX10_grow_96 ?_
              obtain ⟨M24, eM24, hf⟩ := zlt_some hf
              refine R_iast X lc_216 (by decide) dX10_grow_97 ?_
              refine R_mem eM24 ?_
              exact R_sub [0, 1, 2] rfl (hB98 g2 hg2 (f_X10_grow_b16 g2 n) ih v1 v2 M24 hf)
  have hB2 : ∀ (n : Nat) (v1 : Int) (M : Mem), f_X10_grow_b2 n v1 M = some (r, M') → WW p l e (zrm 2 44) s m args below meth c D cas ad (zA ad) 3 0 0 (MQ below (zQv D cas ad M') args s 0 0 (zA ad)) 2 [(0, .ref (ad 215)), (1, .int (zI v1))] [] M := by
    intro n
    induction n with
    | zero => intro v1 M hf; exact absurd hf (by unfold f_X10_grow_b2; simp)
    | succ n ih =>
      intro v1 M hf
      unfold f_X10_grow_b2 at hf
      refine R_iload_n X 1 dX10_grow_2 rfl rfl ?_
      refine R_aload_n X 0 dX10_grow_3 rfl rfl ?_
      refine R_getR X (j := 0) 1 216 lc_215 rfl inX10 (by decide) rfl rfl (by decide) rfl rfl wf_X10_7 dX10_grow_4 ?_
      refine R_sipush X dX10_grow_7 (by decide +kernel) ?_
      refine R_iald X lc_216 (by decide) dX10_grow_10 ?_
      obtain ⟨hq1, hf⟩ := zgrd hf
      obtain ⟨hq2, hf⟩ := zgrd hf
      refine R_icmp_ge X 110 ⟨hq1, hq2⟩ dX10_grow_11 (by decide) (fun c3 => ?_) (fun c3 => ?_)
      · have hf := zthen hf c3
        exact R_vret X hr hk0 dX10_grow_110 hf
      · have hf := zelse hf c3
        refine R_iconst X dX10_grow_14 ?_
        refine R_istore_n X (lv' := [(2, .int (zI 0)), (0, .ref (ad 215)), (1, .int (zI v1))]) dX10_grow_15 rfl (by decide) rfl ?_
        exact R_sub [1, 2, 0] rfl (hB16 (f_X10_grow_b2 n) ih 100000 v1 0 M hf)
  unfold f_X10_grow at hf
  refine (?_ : WW p l e (zrm 2 44) s m args below meth c D cas ad (zA ad) 3 0 0 (MQ below (zQv D cas ad M') args s 0 0 (zA ad)) 0 [(0, .ref (ad 215))] [] M)
  refine R_iconst X dX10_grow_0 ?_
  refine R_istore_n X (lv' := [(1, .int (zI 0)), (0, .ref (ad 215))]) dX10_grow_1 rfl (by decide) rfl ?_
  exact R_sub [1, 0] rfl (hB2 100000 0 M hf)
theorem dX10_heatIn_0 : decode cX10_heatIn 0 = .ok (.iconst 0, 1) := by decide +kernel
theorem dX10_heatIn_1 : decode cX10_heatIn 1 = .ok (.istore_n 2, 1) := by decide +kernel
theorem dX10_heatIn_2 : decode cX10_heatIn 2 = .ok (.iconst 0, 1) := by decide +kernel
theorem dX10_heatIn_3 : decode cX10_heatIn 3 = .ok (.istore_n 3, 1) := by decide +kernel
theorem dX10_heatIn_4 : decode cX10_heatIn 4 = .ok (.iload_n 3, 1) := by decide +kernel
theorem dX10_heatIn_5 : decode cX10_heatIn 5 = .ok (.bipush 16, 2) := by decide +kernel
theorem dX10_heatIn_7 : decode cX10_heatIn 7 = .ok (.if_icmp .ge 40, 3) := by decide +kernel
theorem dX10_heatIn_10 : decode cX10_heatIn 10 = .ok (.iload_n 2, 1) := by decide +kernel
theorem dX10_heatIn_11 : decode cX10_heatIn 11 = .ok (.aload_n 0, 1) := by decide +kernel
theorem dX10_heatIn_12 : decode cX10_heatIn 12 = .ok (.getfield 7, 3) := by decide +kernel
theorem dX10_heatIn_15 : decode cX10_heatIn 15 = .ok (.sipush 416, 3) := by decide +kernel
theorem dX10_heatIn_18 : decode cX10_heatIn 18 = .ok (.iload_n 3, 1) := by decide +kernel
theorem dX10_heatIn_19 : decode cX10_heatIn 19 = .ok (.iadd, 1) := by decide +kernel
theorem dX10_heatIn_20 : decode cX10_heatIn 20 = .ok (.iaload, 1) := by decide +kernel
theorem dX10_heatIn_21 : decode cX10_heatIn 21 = .ok (.iload_n 1, 1) := by decide +kernel
theorem dX10_heatIn_22 : decode cX10_heatIn 22 = .ok (.if_icmp .ne 16, 3) := by decide +kernel
theorem dX10_heatIn_25 : decode cX10_heatIn 25 = .ok (.aload_n 0, 1) := by decide +kernel
theorem dX10_heatIn_26 : decode cX10_heatIn 26 = .ok (.getfield 7, 3) := by decide +kernel
theorem dX10_heatIn_29 : decode cX10_heatIn 29 = .ok (.sipush 432, 3) := by decide +kernel
theorem dX10_heatIn_32 : decode cX10_heatIn 32 = .ok (.iload_n 3, 1) := by decide +kernel
theorem dX10_heatIn_33 : decode cX10_heatIn 33 = .ok (.iadd, 1) := by decide +kernel
theorem dX10_heatIn_34 : decode cX10_heatIn 34 = .ok (.iaload, 1) := by decide +kernel
theorem dX10_heatIn_35 : decode cX10_heatIn 35 = .ok (.goto 4, 3) := by decide +kernel
theorem dX10_heatIn_38 : decode cX10_heatIn 38 = .ok (.iconst 0, 1) := by decide +kernel
theorem dX10_heatIn_39 : decode cX10_heatIn 39 = .ok (.iadd, 1) := by decide +kernel
theorem dX10_heatIn_40 : decode cX10_heatIn 40 = .ok (.istore_n 2, 1) := by decide +kernel
theorem dX10_heatIn_41 : decode cX10_heatIn 41 = .ok (.iinc 3 1, 3) := by decide +kernel
theorem dX10_heatIn_44 : decode cX10_heatIn 44 = .ok (.goto (-40), 3) := by decide +kernel
theorem dX10_heatIn_47 : decode cX10_heatIn 47 = .ok (.iload_n 2, 1) := by decide +kernel
theorem dX10_heatIn_48 : decode cX10_heatIn 48 = .ok (.ireturn, 1) := by decide +kernel
set_option maxRecDepth 100000 in
set_option maxHeartbeats 4000000 in
theorem c_X10_heatIn (l : Launch) (D : va_G) (cas : Nat → ClassId) (ad : Nat → Nat) (hi : zInj ad) {v1 : Int}  {r : Int} {M M' : Mem} (hf : f_X10_heatIn v1 M = some (r, M')) : zMi l D cas ad yX10_heatIn cX10_heatIn 4 (some .int) 0 0 [.ref (ad 215), .int (zI v1)] M r M' := by
  refine zbody (by decide) (Nat.le_of_ble_eq_true rfl) hi ?_
  intro p e s m args below meth c X hr hk0
  have X : zX p s m args c cX10_heatIn "ShardTrailsModel" 4 D cas ad (zA ad) := X
  have hB39 : ∀ (g4 : Int → Int → Int → Mem → Option (Int × Mem)) (hg4 : ∀ (v1 v2 v3 : Int) (M : Mem), g4 v1 v2 v3 M = some (r, M') → WW p l e (zrm 0 0) s m args below meth c D cas ad (zA ad) 4 0 0 (MQ below (zQi D cas ad r M') args s 0 0 (zA ad)) 4 [(0, .ref (ad 215)), (1, .int (zI v1)), (2, .int (zI v2)), (3, .int (zI v3))] [] M) (v1 v3 t2 t1 : Int) (M : Mem), f_X10_heatIn_b39 g4 v1 v3 t2 t1 M = some (r, M') → WW p l e (zrm 0 0) s m args below meth c D cas ad (zA ad) 4 0 0 (MQ below (zQi D cas ad r M') args s 0 0 (zA ad)) 39 [(0, .ref (ad 215)), (1, .int (zI v1)), (3, .int (zI v3))] [.int (zI t2), .int (zI t1)] M := by
    intro g4 hg4 v1 v3 t2 t1 M hf
    unfold f_X10_heatIn_b39 at hf
    refine R_iadd X dX10_heatIn_39 ?_
    obtain ⟨x8, ex8, hf⟩ := zlt_some hf
    refine R_istore_nX X (lv' := [(2, .int (zI x8)), (0, .ref (ad 215)), (1, .int (zI v1)), (3, .int (zI v3))]) ex8 dX10_heatIn_40 rfl (by decide) rfl ?_
    refine R_iinc X (lv' := [(3, .int (zI (v3 + 1))), (2, .int (zI x8)), (0, .ref (ad 215)), (1, .int (zI v1))]) 3 dX10_heatIn_41 rfl (by decide) rfl ?_
    refine R_goto X 4 dX10_heatIn_44 (by decide) ?_
    exact R_sub [2, 3, 1, 0] rfl (hg4 v1 x8 (v3 + 1) M hf)
  have hB4 : ∀ (n : Nat) (v1 v2 v3 : Int) (M : Mem), f_X10_heatIn_b4 n v1 v2 v3 M = some (r, M') → WW p l e (zrm 0 0) s m args below meth c D cas ad (zA ad) 4 0 0 (MQ below (zQi D cas ad r M') args s 0 0 (zA ad)) 4 [(0, .ref (ad 215)), (1, .int (zI v1)), (2, .int (zI v2)), (3, .int (zI v3))] [] M := by
    intro n
    induction n with
    | zero => intro v1 v2 v3 M hf; exact absurd hf (by unfold f_X10_heatIn_b4; simp)
    | succ n ih =>
      intro v1 v2 v3 M hf
      unfold f_X10_heatIn_b4 at hf
      refine R_iload_n X 3 dX10_heatIn_4 rfl rfl ?_
      refine R_bipush X dX10_heatIn_5 (by decide +kernel) ?_
      obtain ⟨hq1, hf⟩ := zgrd hf
      refine R_icmp_ge X 47 ⟨hq1, (by decide)⟩ dX10_heatIn_7 (by decide) (fun c7 => ?_) (fun c7 => ?_)
      · have hf := zthen hf c7
        refine R_iload_n X 2 dX10_heatIn_47 rfl rfl ?_
        exact R_iret X hr hk0 dX10_heatIn_48 hf
      · have hf := zelse hf c7
        refine R_iload_n X 2 dX10_heatIn_10 rfl rfl ?_
        refine R_aload_n X 0 dX10_heatIn_11 rfl rfl ?_
        refine R_getR X (j := 0) 1 216 lc_215 rfl inX10 (by decide) rfl rfl (by decide) rfl rfl wf_X10_7 dX10_heatIn_12 ?_
        refine R_sipush X dX10_heatIn_15 (by decide +kernel) ?_
        refine R_iload_n X 3 dX10_heatIn_18 rfl rfl ?_
        refine R_iadd X dX10_heatIn_19 ?_
        obtain ⟨hq2, hf⟩ := zgrd hf
        refine R_iald X lc_216 hq2 dX10_heatIn_20 ?_
        refine R_iload_n X 1 dX10_heatIn_21 rfl rfl ?_
        obtain ⟨hq3, hf⟩ := zgrd hf
        obtain ⟨hq4, hf⟩ := zgrd hf
        refine R_icmp_ne X 38 ⟨hq3, hq4⟩ dX10_heatIn_22 (by decide) (fun c6 => ?_) (fun c6 => ?_)
        · have hf := zelse hf c6
          refine R_iconst X dX10_heatIn_38 ?_
          exact R_sub [0, 1, 3] rfl (hB39 (f_X10_heatIn_b4 n) ih v1 v3 0 v2 M hf)
        · have hf := zthen hf c6
          refine R_aload_n X 0 dX10_heatIn_25 rfl rfl ?_
          refine R_getR X (j := 0) 1 216 lc_215 rfl inX10 (by decide) rfl rfl (by decide) rfl rfl wf_X10_7 dX10_heatIn_26 ?_
          refine R_sipush X dX10_heatIn_29 (by decide +kernel) ?_
          refine R_iload_n X 3 dX10_heatIn_32 rfl rfl ?_
          refine R_iadd X dX10_heatIn_33 ?_
          obtain ⟨hq5, hf⟩ := zgrd hf
          refine R_iald X lc_216 hq5 dX10_heatIn_34 ?_
          refine R_goto X 39 dX10_heatIn_35 (by decide) ?_
          exact R_sub [0, 1, 3] rfl (hB39 (f_X10_heatIn_b4 n) ih v1 v3 (M 216 (432 + v3).toNat) v2 M hf)
  unfold f_X10_heatIn at hf
  refine (?_ : WW p l e (zrm 0 0) s m args below meth c D cas ad (zA ad) 4 0 0 (MQ below (zQi D cas ad r M') args s 0 0 (zA ad)) 0 [(0, .ref (ad 215)), (1, .int (zI v1))] [] M)
  refine R_iconst X dX10_heatIn_0 ?_
  refine R_istore_n X (lv' := [(2, .int (zI 0)), (0, .ref (ad 215)), (1, .int (zI v1))]) dX10_heatIn_1 rfl (by decide) rfl ?_
  refine R_iconst X dX10_heatIn_2 ?_
  refine R_istore_n X (lv' := [(3, .int (zI 0)), (2, .int (zI 0)), (0, .ref (ad 215)), (1, .int (zI v1))]) dX10_heatIn_3 rfl (by decide) rfl ?_
  exact R_sub [2, 3, 1, 0] rfl (hB4 100000 v1 0 0 M hf)
theorem dX10_isSetting_0 : decode cX10_isSetting 0 = .ok (.iload_n 0, 1) := by decide +kernel
theorem dX10_isSetting_1 : decode cX10_isSetting 1 = .ok (.tableswitch 67 0 4 #[35, 43, 51, 59, 35], 35) := by decide +kernel
theorem dX10_isSetting_36 : decode cX10_isSetting 36 = .ok (.iload_n 1, 1) := by decide +kernel
theorem dX10_isSetting_37 : decode cX10_isSetting 37 = .ok (.iconst 1, 1) := by decide +kernel
theorem dX10_isSetting_38 : decode cX10_isSetting 38 = .ok (.bipush 30, 2) := by decide +kernel
theorem dX10_isSetting_40 : decode cX10_isSetting 40 = .ok (.invokestatic 34, 3) := by decide +kernel
theorem dX10_isSetting_43 : decode cX10_isSetting 43 = .ok (.ireturn, 1) := by decide +kernel
theorem dX10_isSetting_44 : decode cX10_isSetting 44 = .ok (.iload_n 1, 1) := by decide +kernel
theorem dX10_isSetting_45 : decode cX10_isSetting 45 = .ok (.iconst 1, 1) := by decide +kernel
theorem dX10_isSetting_46 : decode cX10_isSetting 46 = .ok (.bipush 60, 2) := by decide +kernel
theorem dX10_isSetting_48 : decode cX10_isSetting 48 = .ok (.invokestatic 34, 3) := by decide +kernel
theorem dX10_isSetting_51 : decode cX10_isSetting 51 = .ok (.ireturn, 1) := by decide +kernel
theorem dX10_isSetting_52 : decode cX10_isSetting 52 = .ok (.iload_n 1, 1) := by decide +kernel
theorem dX10_isSetting_53 : decode cX10_isSetting 53 = .ok (.iconst 1, 1) := by decide +kernel
theorem dX10_isSetting_54 : decode cX10_isSetting 54 = .ok (.bipush 90, 2) := by decide +kernel
theorem dX10_isSetting_56 : decode cX10_isSetting 56 = .ok (.invokestatic 34, 3) := by decide +kernel
theorem dX10_isSetting_59 : decode cX10_isSetting 59 = .ok (.ireturn, 1) := by decide +kernel
theorem dX10_isSetting_60 : decode cX10_isSetting 60 = .ok (.iload_n 1, 1) := by decide +kernel
theorem dX10_isSetting_61 : decode cX10_isSetting 61 = .ok (.iconst 0, 1) := by decide +kernel
theorem dX10_isSetting_62 : decode cX10_isSetting 62 = .ok (.bipush 16, 2) := by decide +kernel
theorem dX10_isSetting_64 : decode cX10_isSetting 64 = .ok (.invokestatic 34, 3) := by decide +kernel
theorem dX10_isSetting_67 : decode cX10_isSetting 67 = .ok (.ireturn, 1) := by decide +kernel
theorem dX10_isSetting_68 : decode cX10_isSetting 68 = .ok (.iload_n 0, 1) := by decide +kernel
theorem dX10_isSetting_69 : decode cX10_isSetting 69 = .ok (.iconst 5, 1) := by decide +kernel
theorem dX10_isSetting_70 : decode cX10_isSetting 70 = .ok (.if_icmp .ne 17, 3) := by decide +kernel
theorem dX10_isSetting_73 : decode cX10_isSetting 73 = .ok (.iload_n 1, 1) := by decide +kernel
theorem dX10_isSetting_74 : decode cX10_isSetting 74 = .ok (.iconst 0, 1) := by decide +kernel
theorem dX10_isSetting_75 : decode cX10_isSetting 75 = .ok (.bipush 100, 2) := by decide +kernel
theorem dX10_isSetting_77 : decode cX10_isSetting 77 = .ok (.invokestatic 34, 3) := by decide +kernel
theorem dX10_isSetting_80 : decode cX10_isSetting 80 = .ok (.ifCond .eq 7, 3) := by decide +kernel
theorem dX10_isSetting_83 : decode cX10_isSetting 83 = .ok (.iconst 1, 1) := by decide +kernel
theorem dX10_isSetting_84 : decode cX10_isSetting 84 = .ok (.goto 4, 3) := by decide +kernel
theorem dX10_isSetting_87 : decode cX10_isSetting 87 = .ok (.iconst 0, 1) := by decide +kernel
theorem dX10_isSetting_88 : decode cX10_isSetting 88 = .ok (.ireturn, 1) := by decide +kernel
set_option maxRecDepth 100000 in
set_option maxHeartbeats 4000000 in
theorem c_X10_isSetting (l : Launch) (D : va_G) (cas : Nat → ClassId) (ad : Nat → Nat) (hi : zInj ad) {v0 : Int} {v1 : Int}  {r : Int} {M M' : Mem} (hf : f_X10_isSetting v0 v1 M = some (r, M')) : zMi l D cas ad yX10_isSetting cX10_isSetting 2 (some .boolean) 1 22 [.int (zI v0), .int (zI v1)] M r M' := by
  refine zbody (by decide) (Nat.le_of_ble_eq_true rfl) hi ?_
  intro p e s m args below meth c X hr hk0
  have X : zX p s m args c cX10_isSetting "ShardTrailsModel" 2 D cas ad (zA ad) := X
  have hB36 : ∀ (v1 : Int) (M : Mem), f_X10_isSetting_b36 v1 M = some (r, M') → WW p l e (zrm 1 22) s m args below meth c D cas ad (zA ad) 2 0 0 (MQ below (zQi D cas ad r M') args s 0 0 (zA ad)) 36 [(1, .int (zI v1))] [] M := by
    intro v1 M hf
    unfold f_X10_isSetting_b36 at hf
    refine R_iload_n X 0 dX10_isSetting_36 rfl rfl ?_
    refine R_iconst X dX10_isSetting_37 ?_
    refine R_bipush X dX10_isSetting_38 (by decide +kernel) ?_
    obtain ⟨r25, M26, hc27, hf⟩ := zbnd_some hf
    refine R_callSi X (av := [.int (zI v1), .int (zI 1), .int (zI 30)]) (rest := []) (c_X10_in l D cas ad hi hc27) zy_X10_in wm_X10_34 rfl rfl ⟨Nat.le_of_ble_eq_true rfl, Nat.le_of_ble_eq_true rfl⟩ ⟨Nat.le_refl _, Nat.le_refl _⟩ (Nat.le_of_ble_eq_true rfl) dX10_isSetting_40 ?_
    obtain ⟨hq28, hf⟩ := zgrd hf
    exact R_zret X hq28 hr hk0 dX10_isSetting_43 hf
  have hB88 : ∀ (t1 : Int) (M : Mem), f_X10_isSetting_b88 t1 M = some (r, M') → WW p l e (zrm 1 22) s m args below meth c D cas ad (zA ad) 2 0 0 (MQ below (zQi D cas ad r M') args s 0 0 (zA ad)) 88 [] [.int (zI t1)] M := by
    intro t1 M hf
    unfold f_X10_isSetting_b88 at hf
    obtain ⟨hq29, hf⟩ := zgrd hf
    exact R_zret X hq29 hr hk0 dX10_isSetting_88 hf
  have hB87 : ∀ (M : Mem), f_X10_isSetting_b87 M = some (r, M') → WW p l e (zrm 1 22) s m args below meth c D cas ad (zA ad) 2 0 0 (MQ below (zQi D cas ad r M') args s 0 0 (zA ad)) 87 [] [] M := by
    intro M hf
    unfold f_X10_isSetting_b87 at hf
    refine R_iconst X dX10_isSetting_87 ?_
    exact R_sub [] rfl (hB88 0 M hf)
  unfold f_X10_isSetting at hf
  refine (?_ : WW p l e (zrm 1 22) s m args below meth c D cas ad (zA ad) 2 0 0 (MQ below (zQi D cas ad r M') args s 0 0 (zA ad)) 0 [(0, .int (zI v0)), (1, .int (zI v1))] [] M)
  refine R_iload_n X 0 dX10_isSetting_0 rfl rfl ?_
  obtain ⟨hq1, hf⟩ := zgrd hf
  by_cases c2 : v0 = 0
  · have hf := zthen hf c2
    refine R_tableIn X (o := 35) 36 c2 dX10_isSetting_1 (by decide) (by decide) (by decide) (by decide +kernel) (by decide) ?_
    exact R_sub [1] rfl (hB36 v1 M hf)
  have hf := zelse hf c2
  by_cases c7 : v0 = 1
  · have hf := zthen hf c7
    refine R_tableIn X (o := 43) 44 c7 dX10_isSetting_1 (by decide) (by decide) (by decide) (by decide +kernel) (by decide) ?_
    refine R_iload_n X 1 dX10_isSetting_44 rfl rfl ?_
    refine R_iconst X dX10_isSetting_45 ?_
    refine R_bipush X dX10_isSetting_46 (by decide +kernel) ?_
    obtain ⟨r3, M4, hc5, hf⟩ := zbnd_some hf
    refine R_callSi X (av := [.int (zI v1), .int (zI 1), .int (zI 60)]) (rest := []) (c_X10_in l D cas ad hi hc5) zy_X10_in wm_X10_34 rfl rfl ⟨Nat.le_of_ble_eq_true rfl, Nat.le_of_ble_eq_true rfl⟩ ⟨Nat.le_refl _, Nat.le_refl _⟩ (Nat.le_of_ble_eq_true rfl) dX10_isSetting_48 ?_
    obtain ⟨hq6, hf⟩ := zgrd hf
    exact R_zret X hq6 hr hk0 dX10_isSetting_51 hf
  have hf := zelse hf c7
  by_cases c12 : v0 = 2
  · have hf := zthen hf c12
    refine R_tableIn X (o := 51) 52 c12 dX10_isSetting_1 (by decide) (by decide) (by decide) (by decide +kernel) (by decide) ?_
    refine R_iload_n X 1 dX10_isSetting_52 rfl rfl ?_
    refine R_iconst X dX10_isSetting_53 ?_
    refine R_bipush X dX10_isSetting_54 (by decide +kernel) ?_
    obtain ⟨r8, M9, hc10, hf⟩ := zbnd_some hf
    refine R_callSi X (av := [.int (zI v1), .int (zI 1), .int (zI 90)]) (rest := []) (c_X10_in l D cas ad hi hc10) zy_X10_in wm_X10_34 rfl rfl ⟨Nat.le_of_ble_eq_true rfl, Nat.le_of_ble_eq_true rfl⟩ ⟨Nat.le_refl _, Nat.le_refl _⟩ (Nat.le_of_ble_eq_true rfl) dX10_isSetting_56 ?_
    obtain ⟨hq11, hf⟩ := zgrd hf
    exact R_zret X hq11 hr hk0 dX10_isSetting_59 hf
  have hf := zelse hf c12
  by_cases c17 : v0 = 3
  · have hf := zthen hf c17
    refine R_tableIn X (o := 59) 60 c17 dX10_isSetting_1 (by decide) (by decide) (by decide) (by decide +kernel) (by decide) ?_
    refine R_iload_n X 1 dX10_isSetting_60 rfl rfl ?_
    refine R_iconst X dX10_isSetting_61 ?_
    refine R_bipush X dX10_isSetting_62 (by decide +kernel) ?_
    obtain ⟨r13, M14, hc15, hf⟩ := zbnd_some hf
    refine R_callSi X (av := [.int (zI v1), .int (zI 0), .int (zI 16)]) (rest := []) (c_X10_in l D cas ad hi hc15) zy_X10_in wm_X10_34 rfl rfl ⟨Nat.le_of_ble_eq_true rfl, Nat.le_of_ble_eq_true rfl⟩ ⟨Nat.le_refl _, Nat.le_refl _⟩ (Nat.le_of_ble_eq_true rfl) dX10_isSetting_64 ?_
    obtain ⟨hq16, hf⟩ := zgrd hf
    exact R_zret X hq16 hr hk0 dX10_isSetting_67 hf
  have hf := zelse hf c17
  by_cases c18 : v0 = 4
  · have hf := zthen hf c18
    refine R_tableIn X (o := 35) 36 c18 dX10_isSetting_1 (by decide) (by decide) (by decide) (by decide +kernel) (by decide) ?_
    exact R_sub [1] rfl (hB36 v1 M hf)
  have hf := zelse hf c18
  refine R_tableOut X 68 hq1 dX10_isSetting_1 (by omega) (by decide) ?_
  refine R_iload_n X 0 dX10_isSetting_68 rfl rfl ?_
  refine R_iconst X dX10_isSetting_69 ?_
  refine R_icmp_ne X 87 ⟨hq1, (by decide)⟩ dX10_isSetting_70 (by decide) (fun c24 => ?_) (fun c24 => ?_)
  · have hf := zelse hf c24
    exact R_sub [] rfl (hB87 M hf)
  · have hf := zthen hf c24
    refine R_iload_n X 1 dX10_isSetting_73 rfl rfl ?_
    refine R_iconst X dX10_isSetting_74 ?_
    refine R_bipush X dX10_isSetting_75 (by decide +kernel) ?_
    obtain ⟨r19, M20, hc21, hf⟩ := zbnd_some hf
    refine R_callSi X (av := [.int (zI v1), .int (zI 0), .int (zI 100)]) (rest := []) (c_X10_in l D cas ad hi hc21) zy_X10_in wm_X10_34 rfl rfl ⟨Nat.le_of_ble_eq_true rfl, Nat.le_of_ble_eq_true rfl⟩ ⟨Nat.le_refl _, Nat.le_refl _⟩ (Nat.le_of_ble_eq_true rfl) dX10_isSetting_77 ?_
    obtain ⟨hq22, hf⟩ := zgrd hf
    refine R_if_eq X 87 hq22 dX10_isSetting_80 (by decide) (fun c23 => ?_) (fun c23 => ?_)
    · have hf := zthen hf c23
      exact R_sub [] rfl (hB87 M20 hf)
    · have hf := zelse hf c23
      refine R_iconst X dX10_isSetting_83 ?_
      refine R_goto X 88 dX10_isSetting_84 (by decide) ?_
      exact R_sub [] rfl (hB88 1 M20 hf)
theorem dX10_isShard_0 : decode cX10_isShard 0 = .ok (.iload_n 0, 1) := by decide +kernel
theorem dX10_isShard_1 : decode cX10_isShard 1 = .ok (.iconst 0, 1) := by decide +kernel
theorem dX10_isShard_2 : decode cX10_isShard 2 = .ok (.bipush 15, 2) := by decide +kernel
theorem dX10_isShard_4 : decode cX10_isShard 4 = .ok (.invokestatic 34, 3) := by decide +kernel
theorem dX10_isShard_7 : decode cX10_isShard 7 = .ok (.ireturn, 1) := by decide +kernel
set_option maxRecDepth 100000 in
set_option maxHeartbeats 4000000 in
theorem c_X10_isShard (l : Launch) (D : va_G) (cas : Nat → ClassId) (ad : Nat → Nat) (hi : zInj ad) {v0 : Int}  {r : Int} {M M' : Mem} (hf : f_X10_isShard v0 M = some (r, M')) : zMi l D cas ad yX10_isShard cX10_isShard 1 (some .boolean) 1 22 [.int (zI v0)] M r M' := by
  refine zbody (by decide) (Nat.le_of_ble_eq_true rfl) hi ?_
  intro p e s m args below meth c X hr hk0
  have X : zX p s m args c cX10_isShard "ShardTrailsModel" 1 D cas ad (zA ad) := X
  unfold f_X10_isShard at hf
  refine (?_ : WW p l e (zrm 1 22) s m args below meth c D cas ad (zA ad) 1 0 0 (MQ below (zQi D cas ad r M') args s 0 0 (zA ad)) 0 [(0, .int (zI v0))] [] M)
  refine R_iload_n X 0 dX10_isShard_0 rfl rfl ?_
  refine R_iconst X dX10_isShard_1 ?_
  refine R_bipush X dX10_isShard_2 (by decide +kernel) ?_
  obtain ⟨r1, M2, hc3, hf⟩ := zbnd_some hf
  refine R_callSi X (av := [.int (zI v0), .int (zI 0), .int (zI 15)]) (rest := []) (c_X10_in l D cas ad hi hc3) zy_X10_in wm_X10_34 rfl rfl ⟨Nat.le_of_ble_eq_true rfl, Nat.le_of_ble_eq_true rfl⟩ ⟨Nat.le_refl _, Nat.le_refl _⟩ (Nat.le_of_ble_eq_true rfl) dX10_isShard_4 ?_
  obtain ⟨hq4, hf⟩ := zgrd hf
  exact R_zret X hq4 hr hk0 dX10_isShard_7 hf
theorem dX10_keep_0 : decode cX10_keep 0 = .ok (.aload_n 0, 1) := by decide +kernel
theorem dX10_keep_1 : decode cX10_keep 1 = .ok (.iconst 0, 1) := by decide +kernel
theorem dX10_keep_2 : decode cX10_keep 2 = .ok (.sipush 4355, 3) := by decide +kernel
theorem dX10_keep_5 : decode cX10_keep 5 = .ok (.invokevirtual 23, 3) := by decide +kernel
theorem dX10_keep_8 : decode cX10_keep 8 = .ok (.aload_n 0, 1) := by decide +kernel
theorem dX10_keep_9 : decode cX10_keep 9 = .ok (.iconst 1, 1) := by decide +kernel
theorem dX10_keep_10 : decode cX10_keep 10 = .ok (.putfield 27, 3) := by decide +kernel
theorem dX10_keep_13 : decode cX10_keep 13 = .ok (.aload_n 0, 1) := by decide +kernel
theorem dX10_keep_14 : decode cX10_keep 14 = .ok (.getfield 7, 3) := by decide +kernel
theorem dX10_keep_17 : decode cX10_keep 17 = .ok (.sipush 862, 3) := by decide +kernel
theorem dX10_keep_20 : decode cX10_keep 20 = .ok (.iaload, 1) := by decide +kernel
theorem dX10_keep_21 : decode cX10_keep 21 = .ok (.ireturn, 1) := by decide +kernel
set_option maxRecDepth 100000 in
set_option maxHeartbeats 4000000 in
theorem c_X10_keep (l : Launch) (D : va_G) (cas : Nat → ClassId) (ad : Nat → Nat) (hi : zInj ad)   {r : Int} {M M' : Mem} (hf : f_X10_keep M = some (r, M')) : zMi l D cas ad yX10_keep cX10_keep 1 (some .int) 1 23 [.ref (ad 215)] M r M' := by
  refine zbody (by decide) (Nat.le_of_ble_eq_true rfl) hi ?_
  intro p e s m args below meth c X hr hk0
  have X : zX p s m args c cX10_keep "ShardTrailsModel" 1 D cas ad (zA ad) := X
  unfold f_X10_keep at hf
  refine (?_ : WW p l e (zrm 1 23) s m args below meth c D cas ad (zA ad) 1 0 0 (MQ below (zQi D cas ad r M') args s 0 0 (zA ad)) 0 [(0, .ref (ad 215))] [] M)
  refine R_aload_n X 0 dX10_keep_0 rfl rfl ?_
  refine R_iconst X dX10_keep_1 ?_
  refine R_sipush X dX10_keep_2 (by decide +kernel) ?_
  obtain ⟨r1, M2, hc3, hf⟩ := zbnd_some hf
  refine R_callVv X (av := [.int (zI 0), .int (zI 4355)]) (rest := []) (c_X10_copy l D cas ad hi hc3) zy_X10_copy lc_215 rfl rfl wm_X10_23 rfl rfl ⟨Nat.le_of_ble_eq_true rfl, Nat.le_of_ble_eq_true rfl⟩ ⟨Nat.le_refl _, Nat.le_refl _⟩ (Nat.le_of_ble_eq_true rfl) dX10_keep_5 ?_
  refine R_aload_n X 0 dX10_keep_8 rfl rfl ?_
  refine R_iconst X dX10_keep_9 ?_
  obtain ⟨M4, eM4, hf⟩ := zlt_some hf
  refine R_put X (j := 2) lc_215 rfl inX10 tyX10_ok nmX10 (by decide) rfl rfl rfl wf_X10_27 rfl (by decide +kernel) (z_nZ (Or.inr rfl)) (z_fZ (Or.inr rfl)) dX10_keep_10 ?_
  refine R_mem eM4 ?_
  refine R_aload_n X 0 dX10_keep_13 rfl rfl ?_
  refine R_getR X (j := 0) 1 216 lc_215 rfl inX10 (by decide) rfl rfl (by decide) rfl rfl wf_X10_7 dX10_keep_14 ?_
  refine R_sipush X dX10_keep_17 (by decide +kernel) ?_
  refine R_iald X lc_216 (by decide) dX10_keep_20 ?_
  exact R_iret X hr hk0 dX10_keep_21 hf
theorem dX10_move_0 : decode cX10_move 0 = .ok (.iload_n 1, 1) := by decide +kernel
theorem dX10_move_1 : decode cX10_move 1 = .ok (.invokestatic 74, 3) := by decide +kernel
theorem dX10_move_4 : decode cX10_move 4 = .ok (.ifCond .eq 11, 3) := by decide +kernel
theorem dX10_move_7 : decode cX10_move 7 = .ok (.aload_n 0, 1) := by decide +kernel
theorem dX10_move_8 : decode cX10_move 8 = .ok (.iload_n 2, 1) := by decide +kernel
theorem dX10_move_9 : decode cX10_move 9 = .ok (.invokevirtual 42, 3) := by decide +kernel
theorem dX10_move_12 : decode cX10_move 12 = .ok (.ifCond .ne 5, 3) := by decide +kernel
theorem dX10_move_15 : decode cX10_move 15 = .ok (.iconst (-1), 1) := by decide +kernel
theorem dX10_move_16 : decode cX10_move 16 = .ok (.ireturn, 1) := by decide +kernel
theorem dX10_move_17 : decode cX10_move 17 = .ok (.aload_n 0, 1) := by decide +kernel
theorem dX10_move_18 : decode cX10_move 18 = .ok (.getfield 7, 3) := by decide +kernel
theorem dX10_move_21 : decode cX10_move 21 = .ok (.sipush 416, 3) := by decide +kernel
theorem dX10_move_24 : decode cX10_move 24 = .ok (.iload_n 1, 1) := by decide +kernel
theorem dX10_move_25 : decode cX10_move 25 = .ok (.iadd, 1) := by decide +kernel
theorem dX10_move_26 : decode cX10_move 26 = .ok (.iaload, 1) := by decide +kernel
theorem dX10_move_27 : decode cX10_move 27 = .ok (.istore_n 3, 1) := by decide +kernel
theorem dX10_move_28 : decode cX10_move 28 = .ok (.iload_n 3, 1) := by decide +kernel
theorem dX10_move_29 : decode cX10_move 29 = .ok (.iload_n 2, 1) := by decide +kernel
theorem dX10_move_30 : decode cX10_move 30 = .ok (.if_icmp .ne 6, 3) := by decide +kernel
theorem dX10_move_33 : decode cX10_move 33 = .ok (.bipush (-5), 2) := by decide +kernel
theorem dX10_move_35 : decode cX10_move 35 = .ok (.ireturn, 1) := by decide +kernel
theorem dX10_move_36 : decode cX10_move 36 = .ok (.aload_n 0, 1) := by decide +kernel
theorem dX10_move_37 : decode cX10_move 37 = .ok (.iload_n 2, 1) := by decide +kernel
theorem dX10_move_38 : decode cX10_move 38 = .ok (.invokevirtual 45, 3) := by decide +kernel
theorem dX10_move_41 : decode cX10_move 41 = .ok (.aload_n 0, 1) := by decide +kernel
theorem dX10_move_42 : decode cX10_move 42 = .ok (.iload_n 2, 1) := by decide +kernel
theorem dX10_move_43 : decode cX10_move 43 = .ok (.invokevirtual 49, 3) := by decide +kernel
theorem dX10_move_46 : decode cX10_move 46 = .ok (.if_icmp .lt 6, 3) := by decide +kernel
theorem dX10_move_49 : decode cX10_move 49 = .ok (.bipush (-3), 2) := by decide +kernel
theorem dX10_move_51 : decode cX10_move 51 = .ok (.ireturn, 1) := by decide +kernel
theorem dX10_move_52 : decode cX10_move 52 = .ok (.aload_n 0, 1) := by decide +kernel
theorem dX10_move_53 : decode cX10_move 53 = .ok (.invokevirtual 31, 3) := by decide +kernel
theorem dX10_move_56 : decode cX10_move 56 = .ok (.aload_n 0, 1) := by decide +kernel
theorem dX10_move_57 : decode cX10_move 57 = .ok (.iload_n 1, 1) := by decide +kernel
theorem dX10_move_58 : decode cX10_move 58 = .ok (.iload_n 2, 1) := by decide +kernel
theorem dX10_move_59 : decode cX10_move 59 = .ok (.invokevirtual 77, 3) := by decide +kernel
theorem dX10_move_62 : decode cX10_move 62 = .ok (.iload_n 3, 1) := by decide +kernel
theorem dX10_move_63 : decode cX10_move 63 = .ok (.ireturn, 1) := by decide +kernel
set_option maxRecDepth 100000 in
set_option maxHeartbeats 4000000 in
theorem c_X10_move (l : Launch) (D : va_G) (cas : Nat → ClassId) (ad : Nat → Nat) (hi : zInj ad) {v1 : Int} {v2 : Int}  {r : Int} {M M' : Mem} (hf : f_X10_move v1 v2 M = some (r, M')) : zMi l D cas ad yX10_move cX10_move 4 (some .int) 2 45 [.ref (ad 215), .int (zI v1), .int (zI v2)] M r M' := by
  refine zbody (by decide) (Nat.le_of_ble_eq_true rfl) hi ?_
  intro p e s m args below meth c X hr hk0
  have X : zX p s m args c cX10_move "ShardTrailsModel" 4 D cas ad (zA ad) := X
  have hB15 : ∀ (M : Mem), f_X10_move_b15 M = some (r, M') → WW p l e (zrm 2 45) s m args below meth c D cas ad (zA ad) 4 0 0 (MQ below (zQi D cas ad r M') args s 0 0 (zA ad)) 15 [] [] M := by
    intro M hf
    unfold f_X10_move_b15 at hf
    refine R_iconst X dX10_move_15 ?_
    exact R_iret X hr hk0 dX10_move_16 hf
  unfold f_X10_move at hf
  refine (?_ : WW p l e (zrm 2 45) s m args below meth c D cas ad (zA ad) 4 0 0 (MQ below (zQi D cas ad r M') args s 0 0 (zA ad)) 0 [(0, .ref (ad 215)), (1, .int (zI v1)), (2, .int (zI v2))] [] M)
  refine R_iload_n X 1 dX10_move_0 rfl rfl ?_
  obtain ⟨r1, M2, hc3, hf⟩ := zbnd_some hf
  refine R_callSi X (av := [.int (zI v1)]) (rest := []) (c_X10_isShard l D cas ad hi hc3) zy_X10_isShard wm_X10_74 rfl rfl ⟨Nat.le_of_ble_eq_true rfl, Nat.le_of_ble_eq_true rfl⟩ ⟨Nat.le_refl _, Nat.le_refl _⟩ (Nat.le_of_ble_eq_true rfl) dX10_move_1 ?_
  obtain ⟨hq4, hf⟩ := zgrd hf
  refine R_if_eq X 15 hq4 dX10_move_4 (by decide) (fun c30 => ?_) (fun c30 => ?_)
  · have hf := zthen hf c30
    exact R_sub [] rfl (hB15 M2 hf)
  · have hf := zelse hf c30
    refine R_aload_n X 0 dX10_move_7 rfl rfl ?_
    refine R_iload_n X 2 dX10_move_8 rfl rfl ?_
    obtain ⟨r5, M6, hc7, hf⟩ := zbnd_some hf
    refine R_callVi X (av := [.int (zI v2)]) (rest := []) (c_X10_isPasture l D cas ad hi hc7) zy_X10_isPasture lc_215 rfl rfl wm_X10_42 rfl rfl ⟨Nat.le_of_ble_eq_true rfl, Nat.le_of_ble_eq_true rfl⟩ ⟨Nat.le_refl _, Nat.le_refl _⟩ (Nat.le_of_ble_eq_true rfl) dX10_move_9 ?_
    obtain ⟨hq8, hf⟩ := zgrd hf
    refine R_if_ne X 17 hq8 dX10_move_12 (by decide) (fun c29 => ?_) (fun c29 => ?_)
    · have hf := zelse hf c29
      refine R_aload_n X 0 dX10_move_17 rfl rfl ?_
      refine R_getR X (j := 0) 1 216 lc_215 rfl inX10 (by decide) rfl rfl (by decide) rfl rfl wf_X10_7 dX10_move_18 ?_
      refine R_sipush X dX10_move_21 (by decide +kernel) ?_
      refine R_iload_n X 1 dX10_move_24 rfl rfl ?_
      refine R_iadd X dX10_move_25 ?_
      obtain ⟨hq9, hf⟩ := zgrd hf
      refine R_iald X lc_216 hq9 dX10_move_26 ?_
      obtain ⟨x10, ex10, hf⟩ := zlt_some hf
      refine R_istore_nX X (lv' := [(3, .int (zI x10)), (0, .ref (ad 215)), (1, .int (zI v1)), (2, .int (zI v2))]) ex10 dX10_move_27 rfl (by decide) rfl ?_
      refine R_iload_n X 0 dX10_move_28 rfl rfl ?_
      refine R_iload_n X 3 dX10_move_29 rfl rfl ?_
      obtain ⟨hq11, hf⟩ := zgrd hf
      obtain ⟨hq12, hf⟩ := zgrd hf
      refine R_icmp_ne X 36 ⟨hq11, hq12⟩ dX10_move_30 (by decide) (fun c28 => ?_) (fun c28 => ?_)
      · have hf := zelse hf c28
        refine R_aload_n X 1 dX10_move_36 rfl rfl ?_
        refine R_iload_n X 3 dX10_move_37 rfl rfl ?_
        obtain ⟨r13, M14, hc15, hf⟩ := zbnd_some hf
        refine R_callVi X (av := [.int (zI v2)]) (rest := []) (c_X10_shardsIn l D cas ad hi hc15) zy_X10_shardsIn lc_215 rfl rfl wm_X10_45 rfl rfl ⟨Nat.le_of_ble_eq_true rfl, Nat.le_of_ble_eq_true rfl⟩ ⟨Nat.le_refl _, Nat.le_refl _⟩ (Nat.le_of_ble_eq_true rfl) dX10_move_38 ?_
        refine R_aload_n X 1 dX10_move_41 rfl rfl ?_
        refine R_iload_n X 3 dX10_move_42 rfl rfl ?_
        obtain ⟨r16, M17, hc18, hf⟩ := zbnd_some hf
        refine R_callVi X (av := [.int (zI v2)]) (rest := [.int (zI r13)]) (c_X10_roomOf l D cas ad hi hc18) zy_X10_roomOf lc_215 rfl rfl wm_X10_49 rfl rfl ⟨Nat.le_of_ble_eq_true rfl, Nat.le_of_ble_eq_true rfl⟩ ⟨Nat.le_refl _, Nat.le_refl _⟩ (Nat.le_of_ble_eq_true rfl) dX10_move_43 ?_
        obtain ⟨hq19, hf⟩ := zgrd hf
        obtain ⟨hq20, hf⟩ := zgrd hf
        refine R_icmp_lt X 52 ⟨hq19, hq20⟩ dX10_move_46 (by decide) (fun c27 => ?_) (fun c27 => ?_)
        · have hf := zthen hf c27
          refine R_aload_n X 1 dX10_move_52 rfl rfl ?_
          obtain ⟨r21, M22, hc23, hf⟩ := zbnd_some hf
          refine R_callVv X (av := []) (rest := []) (c_X10_record l D cas ad hi hc23) zy_X10_record lc_215 rfl rfl wm_X10_31 rfl rfl ⟨Nat.le_of_ble_eq_true rfl, Nat.le_of_ble_eq_true rfl⟩ ⟨Nat.le_refl _, Nat.le_refl _⟩ (Nat.le_of_ble_eq_true rfl) dX10_move_53 ?_
          refine R_aload_n X 1 dX10_move_56 rfl rfl ?_
          refine R_iload_n X 2 dX10_move_57 rfl rfl ?_
          refine R_iload_n X 3 dX10_move_58 rfl rfl ?_
          obtain ⟨r24, M25, hc26, hf⟩ := zbnd_some hf
          refine R_callVv X (av := [.int (zI v1), .int (zI v2)]) (rest := []) (c_X10_go l D cas ad hi hc26) zy_X10_go lc_215 rfl rfl wm_X10_77 rfl rfl ⟨Nat.le_of_ble_eq_true rfl, Nat.le_of_ble_eq_true rfl⟩ ⟨Nat.le_refl _, Nat.le_refl _⟩ (Nat.le_of_ble_eq_true rfl) dX10_move_59 ?_
          refine R_iload_n X 0 dX10_move_62 rfl rfl ?_
          exact R_iret X hr hk0 dX10_move_63 hf
        · have hf := zelse hf c27
          refine R_bipush X dX10_move_49 (by decide +kernel) ?_
          exact R_iret X hr hk0 dX10_move_51 hf
      · have hf := zthen hf c28
        refine R_bipush X dX10_move_33 (by decide +kernel) ?_
        exact R_iret X hr hk0 dX10_move_35 hf
    · have hf := zthen hf c29
      exact R_sub [] rfl (hB15 M6 hf)
theorem dX10_postAll_0 : decode cX10_postAll 0 = .ok (.iconst 0, 1) := by decide +kernel
theorem dX10_postAll_1 : decode cX10_postAll 1 = .ok (.istore_n 1, 1) := by decide +kernel
theorem dX10_postAll_2 : decode cX10_postAll 2 = .ok (.iload_n 1, 1) := by decide +kernel
theorem dX10_postAll_3 : decode cX10_postAll 3 = .ok (.aload_n 0, 1) := by decide +kernel
theorem dX10_postAll_4 : decode cX10_postAll 4 = .ok (.getfield 7, 3) := by decide +kernel
theorem dX10_postAll_7 : decode cX10_postAll 7 = .ok (.sipush 863, 3) := by decide +kernel
theorem dX10_postAll_10 : decode cX10_postAll 10 = .ok (.iaload, 1) := by decide +kernel
theorem dX10_postAll_11 : decode cX10_postAll 11 = .ok (.if_icmp .ge 55, 3) := by decide +kernel
theorem dX10_postAll_14 : decode cX10_postAll 14 = .ok (.iconst 0, 1) := by decide +kernel
theorem dX10_postAll_15 : decode cX10_postAll 15 = .ok (.istore_n 2, 1) := by decide +kernel
theorem dX10_postAll_16 : decode cX10_postAll 16 = .ok (.iload_n 2, 1) := by decide +kernel
theorem dX10_postAll_17 : decode cX10_postAll 17 = .ok (.bipush 16, 2) := by decide +kernel
theorem dX10_postAll_19 : decode cX10_postAll 19 = .ok (.if_icmp .ge 41, 3) := by decide +kernel
theorem dX10_postAll_22 : decode cX10_postAll 22 = .ok (.aload_n 0, 1) := by decide +kernel
theorem dX10_postAll_23 : decode cX10_postAll 23 = .ok (.iload_n 1, 1) := by decide +kernel
theorem dX10_postAll_24 : decode cX10_postAll 24 = .ok (.invokevirtual 38, 3) := by decide +kernel
theorem dX10_postAll_27 : decode cX10_postAll 27 = .ok (.ifCond .eq 33, 3) := by decide +kernel
theorem dX10_postAll_30 : decode cX10_postAll 30 = .ok (.aload_n 0, 1) := by decide +kernel
theorem dX10_postAll_31 : decode cX10_postAll 31 = .ok (.getfield 7, 3) := by decide +kernel
theorem dX10_postAll_34 : decode cX10_postAll 34 = .ok (.bipush 32, 2) := by decide +kernel
theorem dX10_postAll_36 : decode cX10_postAll 36 = .ok (.iload_n 1, 1) := by decide +kernel
theorem dX10_postAll_37 : decode cX10_postAll 37 = .ok (.iload_n 2, 1) := by decide +kernel
theorem dX10_postAll_38 : decode cX10_postAll 38 = .ok (.invokestatic 70, 3) := by decide +kernel
theorem dX10_postAll_41 : decode cX10_postAll 41 = .ok (.aload_n 0, 1) := by decide +kernel
theorem dX10_postAll_42 : decode cX10_postAll 42 = .ok (.getfield 7, 3) := by decide +kernel
theorem dX10_postAll_45 : decode cX10_postAll 45 = .ok (.sipush 416, 3) := by decide +kernel
theorem dX10_postAll_48 : decode cX10_postAll 48 = .ok (.iload_n 2, 1) := by decide +kernel
theorem dX10_postAll_49 : decode cX10_postAll 49 = .ok (.iadd, 1) := by decide +kernel
theorem dX10_postAll_50 : decode cX10_postAll 50 = .ok (.iaload, 1) := by decide +kernel
theorem dX10_postAll_51 : decode cX10_postAll 51 = .ok (.iconst 1, 1) := by decide +kernel
theorem dX10_postAll_52 : decode cX10_postAll 52 = .ok (.iadd, 1) := by decide +kernel
theorem dX10_postAll_53 : decode cX10_postAll 53 = .ok (.iastore, 1) := by decide +kernel
theorem dX10_postAll_54 : decode cX10_postAll 54 = .ok (.iinc 2 1, 3) := by decide +kernel
theorem dX10_postAll_57 : decode cX10_postAll 57 = .ok (.goto (-41), 3) := by decide +kernel
theorem dX10_postAll_60 : decode cX10_postAll 60 = .ok (.iinc 1 1, 3) := by decide +kernel
theorem dX10_postAll_63 : decode cX10_postAll 63 = .ok (.goto (-61), 3) := by decide +kernel
theorem dX10_postAll_66 : decode cX10_postAll 66 = .ok (.return_, 1) := by decide +kernel
set_option maxRecDepth 100000 in
set_option maxHeartbeats 4000000 in
theorem c_X10_postAll (l : Launch) (D : va_G) (cas : Nat → ClassId) (ad : Nat → Nat) (hi : zInj ad)   {r : Int} {M M' : Mem} (hf : f_X10_postAll M = some (r, M')) : zMv l D cas ad yX10_postAll cX10_postAll 3 1 22 [.ref (ad 215)] M M' := by
  refine zbody (by decide) (Nat.le_of_ble_eq_true rfl) hi ?_
  intro p e s m args below meth c X hr hk0
  have X : zX p s m args c cX10_postAll "ShardTrailsModel" 3 D cas ad (zA ad) := X
  have hB60 : ∀ (g2 : Int → Mem → Option (Int × Mem)) (hg2 : ∀ (v1 : Int) (M : Mem), g2 v1 M = some (r, M') → WW p l e (zrm 1 22) s m args below meth c D cas ad (zA ad) 3 0 0 (MQ below (zQv D cas ad M') args s 0 0 (zA ad)) 2 [(0, .ref (ad 215)), (1, .int (zI v1))] [] M) (v1 : Int) (M : Mem), f_X10_postAll_b60 g2 v1 M = some (r, M') → WW p l e (zrm 1 22) s m args below meth c D cas ad (zA ad) 3 0 0 (MQ below (zQv D cas ad M') args s 0 0 (zA ad)) 60 [(0, .ref (ad 215)), (1, .int (zI v1))] [] M := by
    intro g2 hg2 v1 M hf
    unfold f_X10_postAll_b60 at hf
    refine R_iinc X (lv' := [(1, .int (zI (v1 + 1))), (0, .ref (ad 215))]) 1 dX10_postAll_60 rfl (by decide) rfl ?_
    refine R_goto X 2 dX10_postAll_63 (by decide) ?_
    exact R_sub [1, 0] rfl (hg2 (v1 + 1) M hf)
  have hB16 : ∀ (g2 : Int → Mem → Option (Int × Mem)) (hg2 : ∀ (v1 : Int) (M : Mem), g2 v1 M = some (r, M') → WW p l e (zrm 1 22) s m args below meth c D cas ad (zA ad) 3 0 0 (MQ below (zQv D cas ad M') args s 0 0 (zA ad)) 2 [(0, .ref (ad 215)), (1, .int (zI v1))] [] M) (n : Nat) (v1 v2 : Int) (M : Mem), f_X10_postAll_b16 g2 n v1 v2 M = some (r, M') → WW p l e (zrm 1 22) s m args below meth c D cas ad (zA ad) 3 0 0 (MQ below (zQv D cas ad M') args s 0 0 (zA ad)) 16 [(0, .ref (ad 215)), (1, .int (zI v1)), (2, .int (zI v2))] [] M := by
    intro g2 hg2 n
    induction n with
    | zero => intro v1 v2 M hf; exact absurd hf (by unfold f_X10_postAll_b16; simp)
    | succ n ih =>
      intro v1 v2 M hf
      unfold f_X10_postAll_b16 at hf
      refine R_iload_n X 2 dX10_postAll_16 rfl rfl ?_
      refine R_bipush X dX10_postAll_17 (by decide +kernel) ?_
      obtain ⟨hq4, hf⟩ := zgrd hf
      refine R_icmp_ge X 60 ⟨hq4, (by decide)⟩ dX10_postAll_19 (by decide) (fun c16 => ?_) (fun c16 => ?_)
      · have hf := zthen hf c16
        exact R_sub [0, 1] rfl (hB60 g2 hg2 v1 M hf)
      · have hf := zelse hf c16
        refine R_aload_n X 0 dX10_postAll_22 rfl rfl ?_
        refine R_iload_n X 1 dX10_postAll_23 rfl rfl ?_
        obtain ⟨r5, M6, hc7, hf⟩ := zbnd_some hf
        refine R_callVi X (av := [.int (zI v1)]) (rest := []) (c_X10_hasInn l D cas ad hi hc7) zy_X10_hasInn lc_215 rfl rfl wm_X10_38 rfl rfl ⟨Nat.le_of_ble_eq_true rfl, Nat.le_of_ble_eq_true rfl⟩ ⟨Nat.le_refl _, Nat.le_refl _⟩ (Nat.le_of_ble_eq_true rfl) dX10_postAll_24 ?_
        obtain ⟨hq8, hf⟩ := zgrd hf
        refine R_if_eq X 60 hq8 dX10_postAll_27 (by decide) (fun c15 => ?_) (fun c15 => ?_)
        · have hf := zthen hf c15
          exact R_sub [0, 1] rfl (hB60 g2 hg2 v1 M6 hf)
        · have hf := zelse hf c15
          refine R_aload_n X 0 dX10_postAll_30 rfl rfl ?_
          refine R_getR X (j := 0) 1 216 lc_215 rfl inX10 (by decide) rfl rfl (by decide) rfl rfl wf_X10_7 dX10_postAll_31 ?_
          refine R_bipush X dX10_postAll_34 (by decide +kernel) ?_
          refine R_iload_n X 1 dX10_postAll_36 rfl rfl ?_
          refine R_iload_n X 2 dX10_postAll_37 rfl rfl ?_
          obtain ⟨r9, M10, hc11, hf⟩ := zbnd_some hf
          refine R_callSi X (av := [.int (zI 32), .int (zI v1), .int (zI v2)]) (rest := [.ref (ad 216)]) (c_X10_at l D cas ad hi hc11) zy_X10_at wm_X10_70 rfl rfl ⟨Nat.le_of_ble_eq_true rfl, Nat.le_of_ble_eq_true rfl⟩ ⟨Nat.le_refl _, Nat.le_refl _⟩ (Nat.le_of_ble_eq_true rfl) dX10_postAll_38 ?_
          refine R_aload_n X 0 dX10_postAll_41 rfl rfl ?_
          refine R_getR X (j := 0) 1 216 lc_215 rfl inX10 (by decide) rfl rfl (by decide) rfl rfl wf_X10_7 dX10_postAll_42 ?_
          refine R_sipush X dX10_postAll_45 (by decide +kernel) ?_
          refine R_iload_n X 2 dX10_postAll_48 rfl rfl ?_
          refine R_iadd X dX10_postAll_49 ?_
          obtain ⟨hq12, hf⟩ := zgrd hf
          refine R_iald X lc_216 hq12 dX10_postAll_50 ?_
          refine R_iconst X dX10_postAll_51 ?_
          refine R_iadd X dX10_postAll_52 ?_
          obtain ⟨hq13, hf⟩ := zgrd hf
          obtain ⟨M14, eM14, hf⟩ := zlt_some hf
          refine R_iast X lc_216 hq13 dX10_postAll_53 ?_
          refine R_mem eM14 ?_
          refine R_iinc X (lv' := [(2, .int (zI (v2 + 1))), (0, .ref (ad 215)), (1, .int (zI v1))]) 2 dX10_postAll_54 rfl (by decide) rfl ?_
          refine R_goto X 16 dX10_postAll_57 (by decide) ?_
          exact R_sub [1, 2, 0] rfl (ih v1 (v2 + 1) M14 hf)
  have hB2 : ∀ (n : Nat) (v1 : Int) (M : Mem), f_X10_postAll_b2 n v1 M = some (r, M') → WW p l e (zrm 1 22) s m args below meth c D cas ad (zA ad) 3 0 0 (MQ below (zQv D cas ad M') args s 0 0 (zA ad)) 2 [(0, .ref (ad 215)), (1, .int (zI v1))] [] M := by
    intro n
    induction n with
    | zero => intro v1 M hf; exact absurd hf (by unfold f_X10_postAll_b2; simp)
    | succ n ih =>
      intro v1 M hf
      unfold f_X10_postAll_b2 at hf
      refine R_iload_n X 1 dX10_postAll_2 rfl rfl ?_
      refine R_aload_n X 0 dX10_postAll_3 rfl rfl ?_
      refine R_getR X (j := 0) 1 216 lc_215 rfl inX10 (by decide) rfl rfl (by decide) rfl rfl wf_X10_7 dX10_postAll_4 ?_
      refine R_sipush X dX10_postAll_7 (by decide +kernel) ?_
      refine R_iald X lc_216 (by decide) dX10_postAll_10 ?_
      obtain ⟨hq1, hf⟩ := zgrd hf
      obtain ⟨hq2, hf⟩ := zgrd hf
      refine R_icmp_ge X 66 ⟨hq1, hq2⟩ dX10_postAll_11 (by decide) (fun c3 => ?_) (fun c3 => ?_)
      · have hf := zthen hf c3
        exact R_vret X hr hk0 dX10_postAll_66 hf
      · have hf := zelse hf c3
        refine R_iconst X dX10_postAll_14 ?_
        refine R_istore_n X (lv' := [(2, .int (zI 0)), (0, .ref (ad 215)), (1, .int (zI v1))]) dX10_postAll_15 rfl (by decide) rfl ?_
        exact R_sub [1, 2, 0] rfl (hB16 (f_X10_postAll_b2 n) ih 100000 v1 0 M hf)
  unfold f_X10_postAll at hf
  refine (?_ : WW p l e (zrm 1 22) s m args below meth c D cas ad (zA ad) 3 0 0 (MQ below (zQv D cas ad M') args s 0 0 (zA ad)) 0 [(0, .ref (ad 215))] [] M)
  refine R_iconst X dX10_postAll_0 ?_
  refine R_istore_n X (lv' := [(1, .int (zI 0)), (0, .ref (ad 215))]) dX10_postAll_1 rfl (by decide) rfl ?_
  exact R_sub [1, 0] rfl (hB2 100000 0 M hf)

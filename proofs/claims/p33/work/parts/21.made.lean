theorem wm_X9_3 : Cond.methodLink "ShardTrails" 3 objectInit ∈ wsU := wsU_c1 19 rfl rfl
theorem zo_i : Cond.instanceMethod objectInit ∈ wsU := wsU_c1 20 rfl rfl
theorem zo_c : Cond.code objectInit ⟨#[0xb1]⟩ 1 none ∈ wsU := wsU_c1 21 rfl rfl
theorem wc_X9_9 : Cond.classLink "ShardTrails" 9 "ShardTrails$State" ∈ wsU := wsU_c1 22 rfl rfl
theorem wi_7 : Cond.instantiable "ShardTrails$State" 11 ∈ wsU := wsU_c1 23 rfl rfl
theorem wz_7 : Cond.initialized "ShardTrails$State" ∈ wsU := wsU_c1 2 rfl rfl
theorem dv_7 : ∀ j, j < 11 → defaultValue (tyX7 j) = if off 7 j = 0 then Value.int 0 else Value.null := by decide +kernel
theorem wm_X7_3 : Cond.methodLink "ShardTrails$State" 3 objectInit ∈ wsU := wsU_c1 27 rfl rfl
theorem wm_X7_13 : Cond.methodLink "ShardTrails$State" 13 ⟨"[I", "clone", "()Ljava/lang/Object;"⟩ ∈ wsU := wsU_c1 30 rfl rfl
theorem wk_1 : Cond.sameMethod "[I" "java/lang/Object" "clone" "()Ljava/lang/Object;" ∈ wsU := wsU_c1 31 rfl rfl
theorem wk_2 : Cond.native ⟨"java/lang/Object", "clone", "()Ljava/lang/Object;"⟩ ∈ wsU := wsU_c1 32 rfl rfl
theorem wk_3 : Cond.instanceMethod ⟨"java/lang/Object", "clone", "()Ljava/lang/Object;"⟩ ∈ wsU := wsU_c1 33 rfl rfl
theorem wk_4 : Cond.selects "[I" ⟨"[I", "clone", "()Ljava/lang/Object;"⟩ ⟨"java/lang/Object", "clone", "()Ljava/lang/Object;"⟩ ∈ wsU := wsU_c1 34 rfl rfl
theorem wc_X7_14 : Cond.classLink "ShardTrails$State" 14 "[I" ∈ wsU := wsU_c1 36 rfl rfl
theorem wc_X7_29 : Cond.classLink "ShardTrails$State" 29 "ShardTrails$Land" ∈ wsU := wsU_c1 39 rfl rfl
theorem wi_2 : Cond.instantiable "ShardTrails$Land" 7 ∈ wsU := wsU_c1 40 rfl rfl
theorem wz_2 : Cond.initialized "ShardTrails$Land" ∈ wsU := wsU_c1 3 rfl rfl
theorem dv_2 : ∀ j, j < 7 → defaultValue (tyX2 j) = if off 2 j = 0 then Value.int 0 else Value.null := by decide +kernel
theorem wm_X2_3 : Cond.methodLink "ShardTrails$Land" 3 objectInit ∈ wsU := wsU_c1 44 rfl rfl
theorem wa_int : Cond.arrayClass .int ∈ wsU := wsU_c1 85 rfl rfl
theorem wa_boolean : Cond.arrayClass .boolean ∈ wsU := wsU_c1 86 rfl rfl
theorem zy_fill : zyS yJ7_fill_53178 cJ7_fill_53178 4 2 none := ⟨wsU_c1 47 rfl rfl, wsU_c1 46 rfl rfl, wsU_c1 4 rfl rfl, by decide +kernel⟩
theorem wm_X2_31 : Cond.methodLink "ShardTrails$Land" 31 yJ7_fill_53178 ∈ wsU := wsU_c1 45 rfl rfl
theorem zyi_X2_init : zyI yX2_init cX2_init 1 := ⟨wsU_c1 43 rfl rfl, wsU_c1 42 rfl rfl, wsU_c1 3 rfl rfl, rfl, by decide +kernel⟩
theorem wm_X7_31 : Cond.methodLink "ShardTrails$State" 31 yX2_init ∈ wsU := wsU_c1 41 rfl rfl
theorem wc_X7_36 : Cond.classLink "ShardTrails$State" 36 "ShardTrails$Tracks" ∈ wsU := wsU_c1 87 rfl rfl
theorem wi_8 : Cond.instantiable "ShardTrails$Tracks" 2 ∈ wsU := wsU_c1 88 rfl rfl
theorem wz_8 : Cond.initialized "ShardTrails$Tracks" ∈ wsU := wsU_c1 5 rfl rfl
theorem dv_8 : ∀ j, j < 2 → defaultValue (tyX8 j) = if off 8 j = 0 then Value.int 0 else Value.null := by decide +kernel
theorem wm_X8_3 : Cond.methodLink "ShardTrails$Tracks" 3 objectInit ∈ wsU := wsU_c1 92 rfl rfl
theorem wm_X8_18 : Cond.methodLink "ShardTrails$Tracks" 18 yJ7_fill_53178 ∈ wsU := wsU_c1 93 rfl rfl
theorem zyi_X8_init : zyI yX8_init cX8_init 1 := ⟨wsU_c1 91 rfl rfl, wsU_c1 90 rfl rfl, wsU_c1 5 rfl rfl, rfl, by decide +kernel⟩
theorem wm_X7_38 : Cond.methodLink "ShardTrails$State" 38 yX8_init ∈ wsU := wsU_c1 89 rfl rfl
theorem wc_X7_43 : Cond.classLink "ShardTrails$State" 43 "ShardTrails$Herd" ∈ wsU := wsU_c1 104 rfl rfl
theorem wi_0 : Cond.instantiable "ShardTrails$Herd" 4 ∈ wsU := wsU_c1 105 rfl rfl
theorem wz_0 : Cond.initialized "ShardTrails$Herd" ∈ wsU := wsU_c1 6 rfl rfl
theorem dv_0 : ∀ j, j < 4 → defaultValue (tyX0 j) = if off 0 j = 0 then Value.int 0 else Value.null := by decide +kernel
theorem wm_X0_3 : Cond.methodLink "ShardTrails$Herd" 3 objectInit ∈ wsU := wsU_c1 109 rfl rfl
theorem zyi_X0_init : zyI yX0_init cX0_init 1 := ⟨wsU_c1 108 rfl rfl, wsU_c1 107 rfl rfl, wsU_c1 6 rfl rfl, rfl, by decide +kernel⟩
theorem wn_X7_45 : ("ShardTrails$State", 45, yX0_init, "ShardTrails") ∈ zNest := List.mem_of_getElem? (i := 1) (by decide +kernel)
theorem wc_X7_50 : Cond.classLink "ShardTrails$State" 50 "ShardTrails$Pack" ∈ wsU := wsU_c1 130 rfl rfl
theorem wi_3 : Cond.instantiable "ShardTrails$Pack" 3 ∈ wsU := wsU_c1 131 rfl rfl
theorem wz_3 : Cond.initialized "ShardTrails$Pack" ∈ wsU := wsU_c1 7 rfl rfl
theorem dv_3 : ∀ j, j < 3 → defaultValue (tyX3 j) = if off 3 j = 0 then Value.int 0 else Value.null := by decide +kernel
theorem wm_X3_3 : Cond.methodLink "ShardTrails$Pack" 3 objectInit ∈ wsU := wsU_c1 135 rfl rfl
theorem zyi_X3_init : zyI yX3_init cX3_init 1 := ⟨wsU_c1 134 rfl rfl, wsU_c1 133 rfl rfl, wsU_c1 7 rfl rfl, rfl, by decide +kernel⟩
theorem wn_X7_52 : ("ShardTrails$State", 52, yX3_init, "ShardTrails") ∈ zNest := List.mem_of_getElem? (i := 2) (by decide +kernel)
theorem wc_X7_57 : Cond.classLink "ShardTrails$State" 57 "ShardTrails$Readers" ∈ wsU := wsU_c1 149 rfl rfl
theorem wi_4 : Cond.instantiable "ShardTrails$Readers" 7 ∈ wsU := wsU_c1 150 rfl rfl
theorem wz_4 : Cond.initialized "ShardTrails$Readers" ∈ wsU := wsU_c1 8 rfl rfl
theorem dv_4 : ∀ j, j < 7 → defaultValue (tyX4 j) = if off 4 j = 0 then Value.int 0 else Value.null := by decide +kernel
theorem wm_X4_3 : Cond.methodLink "ShardTrails$Readers" 3 objectInit ∈ wsU := wsU_c1 154 rfl rfl
theorem zyi_X4_init : zyI yX4_init cX4_init 1 := ⟨wsU_c1 153 rfl rfl, wsU_c1 152 rfl rfl, wsU_c1 8 rfl rfl, rfl, by decide +kernel⟩
theorem wn_X7_59 : ("ShardTrails$State", 59, yX4_init, "ShardTrails") ∈ zNest := List.mem_of_getElem? (i := 3) (by decide +kernel)
theorem zyi_X7_init : zyI yX7_init cX7_init 1 := ⟨wsU_c1 26 rfl rfl, wsU_c1 25 rfl rfl, wsU_c1 2 rfl rfl, rfl, by decide +kernel⟩
theorem wn_X9_11 : ("ShardTrails", 11, yX7_init, "ShardTrails") ∈ zNest := List.mem_of_getElem? (i := 0) (by decide +kernel)
theorem wc_X9_22 : Cond.classLink "ShardTrails" 22 "ShardTrails$History" ∈ wsU := wsU_c1 233 rfl rfl
theorem wi_1 : Cond.instantiable "ShardTrails$History" 3 ∈ wsU := wsU_c1 234 rfl rfl
theorem wz_1 : Cond.initialized "ShardTrails$History" ∈ wsU := wsU_c1 9 rfl rfl
theorem dv_1 : ∀ j, j < 3 → defaultValue (tyX1 j) = if off 1 j = 0 then Value.int 0 else Value.null := by decide +kernel
theorem wm_X1_3 : Cond.methodLink "ShardTrails$History" 3 objectInit ∈ wsU := wsU_c1 238 rfl rfl
theorem wc_X1_9 : Cond.classLink "ShardTrails$History" 9 "ShardTrails$State" ∈ wsU := wsU_c1 239 rfl rfl
theorem wn_X1_17 : ("ShardTrails$History", 17, yX7_init, "ShardTrails") ∈ zNest := List.mem_of_getElem? (i := 4) (by decide +kernel)
theorem zyi_X1_init : zyI yX1_init cX1_init 2 := ⟨wsU_c1 237 rfl rfl, wsU_c1 236 rfl rfl, wsU_c1 9 rfl rfl, rfl, by decide +kernel⟩
theorem wm_X9_24 : Cond.methodLink "ShardTrails" 24 yX1_init ∈ wsU := wsU_c1 235 rfl rfl
theorem wc_X9_29 : Cond.classLink "ShardTrails" 29 "ShardTrails$Route" ∈ wsU := wsU_c2 13 rfl rfl
theorem wi_6 : Cond.instantiable "ShardTrails$Route" 9 ∈ wsU := wsU_c2 14 rfl rfl
theorem wz_6 : Cond.initialized "ShardTrails$Route" ∈ wsU := wsU_c1 10 rfl rfl
theorem dv_6 : ∀ j, j < 9 → defaultValue (tyX6 j) = if off 6 j = 0 then Value.int 0 else Value.null := by decide +kernel
theorem wm_X6_3 : Cond.methodLink "ShardTrails$Route" 3 objectInit ∈ wsU := wsU_c2 18 rfl rfl
theorem zyi_X6_init : zyI yX6_init cX6_init 1 := ⟨wsU_c2 17 rfl rfl, wsU_c2 16 rfl rfl, wsU_c1 10 rfl rfl, rfl, by decide +kernel⟩
theorem wn_X9_31 : ("ShardTrails", 31, yX6_init, "ShardTrails") ∈ zNest := List.mem_of_getElem? (i := 5) (by decide +kernel)
theorem wc_X9_36 : Cond.classLink "ShardTrails" 36 "ShardTrails$RequestText" ∈ wsU := wsU_c2 57 rfl rfl
theorem wi_5 : Cond.instantiable "ShardTrails$RequestText" 7 ∈ wsU := wsU_c2 58 rfl rfl
theorem wz_5 : Cond.initialized "ShardTrails$RequestText" ∈ wsU := wsU_c1 11 rfl rfl
theorem dv_5 : ∀ j, j < 7 → defaultValue (tyX5 j) = if off 5 j = 0 then Value.int 0 else Value.null := by decide +kernel
theorem wm_X5_3 : Cond.methodLink "ShardTrails$RequestText" 3 objectInit ∈ wsU := wsU_c2 62 rfl rfl
theorem wf_X5_9 : Cond.fieldLink "ShardTrails$RequestText" 9 "ShardTrails$RequestText" "readers" "[I" ∈ wsU := wsU_c2 64 rfl rfl
theorem wf_X5_15 : Cond.fieldLink "ShardTrails$RequestText" 15 "ShardTrails$RequestText" "keys" "[I" ∈ wsU := wsU_c2 65 rfl rfl
theorem wf_X5_18 : Cond.fieldLink "ShardTrails$RequestText" 18 "ShardTrails$RequestText" "values" "[I" ∈ wsU := wsU_c2 66 rfl rfl
theorem wa_char : Cond.arrayClass .char ∈ wsU := wsU_c2 83 rfl rfl
theorem wf_X5_21 : Cond.fieldLink "ShardTrails$RequestText" 21 "ShardTrails$RequestText" "characters" "[C" ∈ wsU := wsU_c2 67 rfl rfl
theorem zyi_X5_init : zyI yX5_init cX5_init 1 := ⟨wsU_c2 61 rfl rfl, wsU_c2 60 rfl rfl, wsU_c1 11 rfl rfl, rfl, by decide +kernel⟩
theorem wn_X9_38 : ("ShardTrails", 38, yX5_init, "ShardTrails") ∈ zNest := List.mem_of_getElem? (i := 6) (by decide +kernel)
theorem dJ7_fill_53178_0 : decode cJ7_fill_53178 0 = .ok (.iconst 0, 1) := by decide +kernel
theorem dJ7_fill_53178_1 : decode cJ7_fill_53178 1 = .ok (.istore_n 2, 1) := by decide +kernel
theorem dJ7_fill_53178_2 : decode cJ7_fill_53178 2 = .ok (.aload_n 0, 1) := by decide +kernel
theorem dJ7_fill_53178_3 : decode cJ7_fill_53178 3 = .ok (.arraylength, 1) := by decide +kernel
theorem dJ7_fill_53178_4 : decode cJ7_fill_53178 4 = .ok (.istore_n 3, 1) := by decide +kernel
theorem dJ7_fill_53178_5 : decode cJ7_fill_53178 5 = .ok (.iload_n 2, 1) := by decide +kernel
theorem dJ7_fill_53178_6 : decode cJ7_fill_53178 6 = .ok (.iload_n 3, 1) := by decide +kernel
theorem dJ7_fill_53178_7 : decode cJ7_fill_53178 7 = .ok (.if_icmp .ge 13, 3) := by decide +kernel
theorem dJ7_fill_53178_10 : decode cJ7_fill_53178 10 = .ok (.aload_n 0, 1) := by decide +kernel
theorem dJ7_fill_53178_11 : decode cJ7_fill_53178 11 = .ok (.iload_n 2, 1) := by decide +kernel
theorem dJ7_fill_53178_12 : decode cJ7_fill_53178 12 = .ok (.iload_n 1, 1) := by decide +kernel
theorem dJ7_fill_53178_13 : decode cJ7_fill_53178 13 = .ok (.iastore, 1) := by decide +kernel
theorem dJ7_fill_53178_14 : decode cJ7_fill_53178 14 = .ok (.iinc 2 1, 3) := by decide +kernel
theorem dJ7_fill_53178_17 : decode cJ7_fill_53178 17 = .ok (.goto (-12), 3) := by decide +kernel
theorem dJ7_fill_53178_20 : decode cJ7_fill_53178 20 = .ok (.return_, 1) := by decide +kernel
set_option maxRecDepth 100000 in
set_option maxHeartbeats 4000000 in
theorem cd_fill (l : Launch) (D : va_G) (cas : Nat → ClassId) (h0 : Nat) {n k N : Nat} {v : Int} (hk : k < n ∧ lay k = (1, N)) (hN : N ≤ 6097) (M : Mem) : zKd l D cas h0 yJ7_fill_53178 cJ7_fill_53178 4 0 0 0 0 [.ref (h0 + k), .int (zI v)] n M n (flM M k N v) := by
  refine zbodyD (by decide) (Nat.le_of_ble_eq_true rfl) ?_
  intro p e s m args below meth c X hr hk0 hnm
  have X : zY p s m args c cJ7_fill_53178 "java/util/Arrays" 4 D cas h0 n := X
  have hB : ∀ (d i : Nat) (M1 : Mem), d + i = N → (∀ j, j < i → M1 k j = v) → (∀ j, ¬ j < i → M1 k j = M k j) → (∀ a, a ≠ k → M1 a = M a) → WD p l e (zro 0 0 0 0) s m args below meth c D cas h0 4 (MQ below (zQd D cas h0 n (flM M k N v)) args s 0 0 (fun q => h0 ≤ q)) 0 0 5 [(0, .ref (h0 + k)), (1, .int (zI v)), (2, .int (zI i)), (3, .int (zI (N : Int)))] [] n M1 := by
    intro d
    induction d with
    | zero =>
      intro i M1 hd h1 h2 h3
      have hi : i = N := by omega
      subst hi
      refine D_iload_n X 2 dJ7_fill_53178_5 rfl rfl ?_
      refine D_iload_n X 3 dJ7_fill_53178_6 rfl rfl ?_
      refine D_icmp_geT X 20 ⟨⟨by omega, by omega⟩, ⟨by omega, by omega⟩⟩ (Int.le_refl _) dJ7_fill_53178_7 (by decide) ?_
      refine D_vret X hr hk0 dJ7_fill_53178_20 ?_ rfl rfl rfl
      funext a
      by_cases e : a = k
      · subst e
        funext j
        have hw : flM M a i v a j = if j < i then v else M a j := by simp [flM, ml]
        rw [hw]
        by_cases hj : j < i
        · rw [if_pos hj]; exact h1 j hj
        · rw [if_neg hj]; exact h2 j hj
      · have hw : flM M k i v a = M a := by simp [flM, ml, e]
        rw [hw]; exact h3 a e
    | succ d ih =>
      intro i M1 hd h1 h2 h3
      refine D_iload_n X 2 dJ7_fill_53178_5 rfl rfl ?_
      refine D_iload_n X 3 dJ7_fill_53178_6 rfl rfl ?_
      refine D_icmp_geF X 20 ⟨⟨by omega, by omega⟩, ⟨by omega, by omega⟩⟩ (by omega) dJ7_fill_53178_7 (by decide) ?_
      refine D_aload_n X 0 dJ7_fill_53178_10 rfl rfl ?_
      refine D_iload_n X 2 dJ7_fill_53178_11 rfl rfl ?_
      refine D_iload_n X 1 dJ7_fill_53178_12 rfl rfl ?_
      refine D_iast X (k := k) i hk ⟨by omega, by omega⟩ (by omega) (Int.toNat_natCast i) dJ7_fill_53178_13 ?_
      refine D_iinc X (lv' := [(2, .int (zI ((i + 1 : Nat) : Int))), (0, .ref (h0 + k)), (1, .int (zI v)), (3, .int (zI (N : Int)))]) 2 dJ7_fill_53178_14 rfl (by omega) (by decide) rfl ?_
      refine D_goto X 5 dJ7_fill_53178_17 (by decide) ?_
      refine D_sub [1, 2, 0, 3] rfl (ih (i + 1) (wr M1 k i v) (by omega) (fun j hj => ?_) (fun j hj => ?_) (fun a ha => ?_))
      · have hw : wr M1 k i v k j = if j = i then v else M1 k j := by simp [wr, up]
        rw [hw]
        by_cases e : j = i
        · rw [if_pos e]
        · rw [if_neg e]; exact h1 j (by omega)
      · have hw : wr M1 k i v k j = if j = i then v else M1 k j := by simp [wr, up]
        rw [hw, if_neg (by omega)]
        exact h2 j (by omega)
      · have hw : wr M1 k i v a = M1 a := by simp [wr, ha]
        rw [hw]; exact h3 a ha
  refine (?_ : WD p l e (zro 0 0 0 0) s m args below meth c D cas h0 4 (MQ below (zQd D cas h0 n (flM M k N v)) args s 0 0 (fun q => h0 ≤ q)) 0 0 0 [(0, .ref (h0 + k)), (1, .int (zI v))] [] n M)
  refine D_iconst X dJ7_fill_53178_0 ?_
  refine D_istore_n X (lv' := [(2, .int (zI 0)), (0, .ref (h0 + k)), (1, .int (zI v))]) dJ7_fill_53178_1 rfl (by decide) rfl ?_
  refine D_aload_n X 1 dJ7_fill_53178_2 rfl rfl ?_
  refine D_alen X hk dJ7_fill_53178_3 ?_
  refine D_istore_n X (lv' := [(3, .int (zI (N : Int))), (2, .int (zI 0)), (0, .ref (h0 + k)), (1, .int (zI v))]) dJ7_fill_53178_4 rfl (by decide) rfl ?_
  exact D_sub [2, 3, 1, 0] rfl (hB N 0 M (by omega) (fun j hj => absurd hj (by omega)) (fun _ _ => rfl) (fun _ _ => rfl))
theorem dX2_init_0 : decode cX2_init 0 = .ok (.aload_n 0, 1) := by decide +kernel
theorem dX2_init_1 : decode cX2_init 1 = .ok (.invokespecial 3, 3) := by decide +kernel
theorem dX2_init_4 : decode cX2_init 4 = .ok (.aload_n 0, 1) := by decide +kernel
theorem dX2_init_5 : decode cX2_init 5 = .ok (.bipush 8, 2) := by decide +kernel
theorem dX2_init_7 : decode cX2_init 7 = .ok (.newarray .int, 2) := by decide +kernel
theorem dX2_init_9 : decode cX2_init 9 = .ok (.putfield 9, 3) := by decide +kernel
theorem dX2_init_12 : decode cX2_init 12 = .ok (.aload_n 0, 1) := by decide +kernel
theorem dX2_init_13 : decode cX2_init 13 = .ok (.bipush 8, 2) := by decide +kernel
theorem dX2_init_15 : decode cX2_init 15 = .ok (.newarray .int, 2) := by decide +kernel
theorem dX2_init_17 : decode cX2_init 17 = .ok (.putfield 15, 3) := by decide +kernel
theorem dX2_init_20 : decode cX2_init 20 = .ok (.aload_n 0, 1) := by decide +kernel
theorem dX2_init_21 : decode cX2_init 21 = .ok (.bipush 8, 2) := by decide +kernel
theorem dX2_init_23 : decode cX2_init 23 = .ok (.newarray .int, 2) := by decide +kernel
theorem dX2_init_25 : decode cX2_init 25 = .ok (.putfield 18, 3) := by decide +kernel
theorem dX2_init_28 : decode cX2_init 28 = .ok (.aload_n 0, 1) := by decide +kernel
theorem dX2_init_29 : decode cX2_init 29 = .ok (.bipush 8, 2) := by decide +kernel
theorem dX2_init_31 : decode cX2_init 31 = .ok (.newarray .int, 2) := by decide +kernel
theorem dX2_init_33 : decode cX2_init 33 = .ok (.putfield 21, 3) := by decide +kernel
theorem dX2_init_36 : decode cX2_init 36 = .ok (.aload_n 0, 1) := by decide +kernel
theorem dX2_init_37 : decode cX2_init 37 = .ok (.bipush 8, 2) := by decide +kernel
theorem dX2_init_39 : decode cX2_init 39 = .ok (.newarray .boolean, 2) := by decide +kernel
theorem dX2_init_41 : decode cX2_init 41 = .ok (.putfield 24, 3) := by decide +kernel
theorem dX2_init_44 : decode cX2_init 44 = .ok (.aload_n 0, 1) := by decide +kernel
theorem dX2_init_45 : decode cX2_init 45 = .ok (.sipush 128, 3) := by decide +kernel
theorem dX2_init_48 : decode cX2_init 48 = .ok (.newarray .int, 2) := by decide +kernel
theorem dX2_init_50 : decode cX2_init 50 = .ok (.putfield 28, 3) := by decide +kernel
theorem dX2_init_53 : decode cX2_init 53 = .ok (.aload_n 0, 1) := by decide +kernel
theorem dX2_init_54 : decode cX2_init 54 = .ok (.getfield 28, 3) := by decide +kernel
theorem dX2_init_57 : decode cX2_init 57 = .ok (.bipush (-5), 2) := by decide +kernel
theorem dX2_init_59 : decode cX2_init 59 = .ok (.invokestatic 31, 3) := by decide +kernel
theorem dX2_init_62 : decode cX2_init 62 = .ok (.aload_n 0, 1) := by decide +kernel
theorem dX2_init_63 : decode cX2_init 63 = .ok (.iconst 1, 1) := by decide +kernel
theorem dX2_init_64 : decode cX2_init 64 = .ok (.putfield 37, 3) := by decide +kernel
theorem dX2_init_67 : decode cX2_init 67 = .ok (.aload_n 0, 1) := by decide +kernel
theorem dX2_init_68 : decode cX2_init 68 = .ok (.getfield 15, 3) := by decide +kernel
theorem dX2_init_71 : decode cX2_init 71 = .ok (.iconst 0, 1) := by decide +kernel
theorem dX2_init_72 : decode cX2_init 72 = .ok (.bipush 16, 2) := by decide +kernel
theorem dX2_init_74 : decode cX2_init 74 = .ok (.iastore, 1) := by decide +kernel
theorem dX2_init_75 : decode cX2_init 75 = .ok (.aload_n 0, 1) := by decide +kernel
theorem dX2_init_76 : decode cX2_init 76 = .ok (.getfield 18, 3) := by decide +kernel
theorem dX2_init_79 : decode cX2_init 79 = .ok (.iconst 0, 1) := by decide +kernel
theorem dX2_init_80 : decode cX2_init 80 = .ok (.bipush 16, 2) := by decide +kernel
theorem dX2_init_82 : decode cX2_init 82 = .ok (.iastore, 1) := by decide +kernel
theorem dX2_init_83 : decode cX2_init 83 = .ok (.return_, 1) := by decide +kernel
def lx_2 : List (Nat × Nat) := [(0, 2), (1, 8), (1, 8), (1, 8), (1, 8), (2, 8), (1, 128)]
def g_X2_init (k : Nat) (M : Mem) : Mem :=
  (wr (wr (wr (flM (wr (ml (wr (ml (wr (ml (wr (ml (wr (ml (wr (ml M (k + 1) fun _ => 0) k 1 1) (k + 2) fun _ => 0) k 2 1) (k + 3) fun _ => 0) k 3 1) (k + 4) fun _ => 0) k 4 1) (k + 5) fun _ => 0) k 5 1) (k + 6) fun _ => 0) k 6 1) (k + 6) 128 (-5)) k 0 1) (k + 2) 0 16) (k + 3) 0 16)
set_option maxRecDepth 100000 in
set_option maxHeartbeats 4000000 in
theorem cd_X2_init (l : Launch) (D : va_G) (cas : Nat → ClassId) (h0 k : Nat) (hL : ∀ j, j < 7 → lay (k + j) = lx_2.getD j (9, 0)) (M : Mem) : zKd l D cas h0 yX2_init cX2_init 1 1 23 6 168 [.ref (h0 + k)] (k + 1) M (k + 7) (g_X2_init k M) := by
  refine zbodyD (by decide) (Nat.le_of_ble_eq_true rfl) ?_
  intro p e s m args below meth c X hr hk0 hnm
  have hnm : meth.name = "<init>" := hnm
  have X : zY p s m args c cX2_init "ShardTrails$Land" 1 D cas h0 (k + 1) := X
  refine (?_ : WD p l e (zro 1 23 6 168) s m args below meth c D cas h0 1 (MQ below (zQd D cas h0 (k + 7) (g_X2_init k M)) args s 6 168 (fun q => h0 ≤ q)) 0 0 0 [(0, .ref (h0 + k))] [] (k + 1) M)
  refine D_aload_n X 0 dX2_init_0 rfl rfl ?_
  refine D_obj X wm_X2_3 zo_i zo_c dX2_init_1 (by decide) (Nat.le_of_ble_eq_true rfl) ?_
  refine D_aload_n X 0 dX2_init_4 rfl rfl ?_
  refine D_bipush X dX2_init_5 (by decide +kernel) ?_
  refine D_newa X (atype := .int) (t := 0) (show lay (k + 1) = (1, 8) from hL 1 (by decide)) (by decide) rfl rfl (fun C h => by cases h) rfl wa_int ⟨by decide, by decide⟩ (by decide) (by decide) (by omega) dX2_init_7 ⟨Nat.le_of_ble_eq_true rfl, Nat.le_of_ble_eq_true rfl⟩ ?_
  refine D_putR X (ty := (.array .int)) (k := k) (j := 1) 1 ⟨by omega, (show lay (k) = (0, 2) from hL 0 (by decide))⟩ rfl inX2 tyX2_ok nmX2 (by decide) rfl rfl (by decide) rfl rfl wf_X2_9 rfl hnm rfl (by decide +kernel) (fun _ => rfl) (fun _ => rfl) dX2_init_9 ?_
  refine D_aload_n X 0 dX2_init_12 rfl rfl ?_
  refine D_bipush X dX2_init_13 (by decide +kernel) ?_
  refine D_newa X (atype := .int) (t := 0) (show lay (k + 2) = (1, 8) from hL 2 (by decide)) (by decide) rfl rfl (fun C h => by cases h) rfl wa_int ⟨by decide, by decide⟩ (by decide) (by decide) (by omega) dX2_init_15 ⟨Nat.le_of_ble_eq_true rfl, Nat.le_of_ble_eq_true rfl⟩ ?_
  refine D_putR X (ty := (.array .int)) (k := k) (j := 2) 2 ⟨by omega, (show lay (k) = (0, 2) from hL 0 (by decide))⟩ rfl inX2 tyX2_ok nmX2 (by decide) rfl rfl (by decide) rfl rfl wf_X2_15 rfl hnm rfl (by decide +kernel) (fun _ => rfl) (fun _ => rfl) dX2_init_17 ?_
  refine D_aload_n X 0 dX2_init_20 rfl rfl ?_
  refine D_bipush X dX2_init_21 (by decide +kernel) ?_
  refine D_newa X (atype := .int) (t := 0) (show lay (k + 3) = (1, 8) from hL 3 (by decide)) (by decide) rfl rfl (fun C h => by cases h) rfl wa_int ⟨by decide, by decide⟩ (by decide) (by decide) (by omega) dX2_init_23 ⟨Nat.le_of_ble_eq_true rfl, Nat.le_of_ble_eq_true rfl⟩ ?_
  refine D_putR X (ty := (.array .int)) (k := k) (j := 3) 3 ⟨by omega, (show lay (k) = (0, 2) from hL 0 (by decide))⟩ rfl inX2 tyX2_ok nmX2 (by decide) rfl rfl (by decide) rfl rfl wf_X2_18 rfl hnm rfl (by decide +kernel) (fun _ => rfl) (fun _ => rfl) dX2_init_25 ?_
  refine D_aload_n X 0 dX2_init_28 rfl rfl ?_
  refine D_bipush X dX2_init_29 (by decide +kernel) ?_
  refine D_newa X (atype := .int) (t := 0) (show lay (k + 4) = (1, 8) from hL 4 (by decide)) (by decide) rfl rfl (fun C h => by cases h) rfl wa_int ⟨by decide, by decide⟩ (by decide) (by decide) (by omega) dX2_init_31 ⟨Nat.le_of_ble_eq_true rfl, Nat.le_of_ble_eq_true rfl⟩ ?_
  refine D_putR X (ty := (.array .int)) (k := k) (j := 4) 4 ⟨by omega, (show lay (k) = (0, 2) from hL 0 (by decide))⟩ rfl inX2 tyX2_ok nmX2 (by decide) rfl rfl (by decide) rfl rfl wf_X2_21 rfl hnm rfl (by decide +kernel) (fun _ => rfl) (fun _ => rfl) dX2_init_33 ?_
  refine D_aload_n X 0 dX2_init_36 rfl rfl ?_
  refine D_bipush X dX2_init_37 (by decide +kernel) ?_
  refine D_newa X (atype := .boolean) (t := 1) (show lay (k + 5) = (2, 8) from hL 5 (by decide)) (by decide) rfl rfl (fun C h => by cases h) rfl wa_boolean ⟨by decide, by decide⟩ (by decide) (by decide) (by omega) dX2_init_39 ⟨Nat.le_of_ble_eq_true rfl, Nat.le_of_ble_eq_true rfl⟩ ?_
  refine D_putR X (ty := (.array .boolean)) (k := k) (j := 5) 5 ⟨by omega, (show lay (k) = (0, 2) from hL 0 (by decide))⟩ rfl inX2 tyX2_ok nmX2 (by decide) rfl rfl (by decide) rfl rfl wf_X2_24 rfl hnm rfl (by decide +kernel) (fun _ => rfl) (fun _ => rfl) dX2_init_41 ?_
  refine D_aload_n X 0 dX2_init_44 rfl rfl ?_
  refine D_sipush X dX2_init_45 (by decide +kernel) ?_
  refine D_newa X (atype := .int) (t := 0) (show lay (k + 6) = (1, 128) from hL 6 (by decide)) (by decide) rfl rfl (fun C h => by cases h) rfl wa_int ⟨by decide, by decide⟩ (by decide) (by decide) (by omega) dX2_init_48 ⟨Nat.le_of_ble_eq_true rfl, Nat.le_of_ble_eq_true rfl⟩ ?_
  refine D_putR X (ty := (.array .int)) (k := k) (j := 6) 6 ⟨by omega, (show lay (k) = (0, 2) from hL 0 (by decide))⟩ rfl inX2 tyX2_ok nmX2 (by decide) rfl rfl (by decide) rfl rfl wf_X2_28 rfl hnm rfl (by decide +kernel) (fun _ => rfl) (fun _ => rfl) dX2_init_50 ?_
  refine D_aload_n X 0 dX2_init_53 rfl rfl ?_
  refine D_getR X (k := k) (j := 6) 6 (k + 6) ⟨by omega, (show lay (k) = (0, 2) from hL 0 (by decide))⟩ (by simp [wr, ml, flM, up, Nat.add_assoc]) rfl inX2 (by decide) rfl rfl (by decide) rfl rfl wf_X2_28 dX2_init_54 ?_
  refine D_bipush X dX2_init_57 (by decide +kernel) ?_
  refine D_callS X (av := [.ref (h0 + (k + 6)), .int (zI (-5))]) (rest := []) (cd_fill l D cas h0 (k := k + 6) (N := 128) (v := (-5)) ⟨by omega, (show lay (k + 6) = (1, 128) from hL 6 (by decide))⟩ (by decide) _) zy_fill wm_X2_31 rfl rfl (by omega) ⟨Nat.le_of_ble_eq_true rfl, Nat.le_of_ble_eq_true rfl⟩ ⟨Nat.le_of_ble_eq_true rfl, Nat.le_of_ble_eq_true rfl⟩ (Nat.le_of_ble_eq_true rfl) dX2_init_59 ?_
  refine D_aload_n X 0 dX2_init_62 rfl rfl ?_
  refine D_iconst X dX2_init_63 ?_
  refine D_put X (k := k) (j := 0) ⟨by omega, (show lay (k) = (0, 2) from hL 0 (by decide))⟩ rfl inX2 tyX2_ok nmX2 (by decide) rfl rfl rfl wf_X2_37 rfl (by decide +kernel) (z_nI _) (z_fI _) dX2_init_64 ?_
  refine D_aload_n X 0 dX2_init_67 rfl rfl ?_
  refine D_getR X (k := k) (j := 2) 2 (k + 2) ⟨by omega, (show lay (k) = (0, 2) from hL 0 (by decide))⟩ (by simp [wr, ml, flM, up, Nat.add_assoc]) rfl inX2 (by decide) rfl rfl (by decide) rfl rfl wf_X2_15 dX2_init_68 ?_
  refine D_iconst X dX2_init_71 ?_
  refine D_bipush X dX2_init_72 (by decide +kernel) ?_
  refine D_iast X (k := k + 2) 0 ⟨by omega, (show lay (k + 2) = (1, 8) from hL 2 (by decide))⟩ (by decide) (by decide) rfl dX2_init_74 ?_
  refine D_aload_n X 0 dX2_init_75 rfl rfl ?_
  refine D_getR X (k := k) (j := 3) 3 (k + 3) ⟨by omega, (show lay (k) = (0, 2) from hL 0 (by decide))⟩ (by simp [wr, ml, flM, up, Nat.add_assoc]) rfl inX2 (by decide) rfl rfl (by decide) rfl rfl wf_X2_18 dX2_init_76 ?_
  refine D_iconst X dX2_init_79 ?_
  refine D_bipush X dX2_init_80 (by decide +kernel) ?_
  refine D_iast X (k := k + 3) 0 ⟨by omega, (show lay (k + 3) = (1, 8) from hL 3 (by decide))⟩ (by decide) (by decide) rfl dX2_init_82 ?_
  exact D_vret X hr hk0 dX2_init_83 rfl rfl rfl rfl
theorem dX8_init_0 : decode cX8_init 0 = .ok (.aload_n 0, 1) := by decide +kernel
theorem dX8_init_1 : decode cX8_init 1 = .ok (.invokespecial 3, 3) := by decide +kernel
theorem dX8_init_4 : decode cX8_init 4 = .ok (.aload_n 0, 1) := by decide +kernel
theorem dX8_init_5 : decode cX8_init 5 = .ok (.sipush 128, 3) := by decide +kernel
theorem dX8_init_8 : decode cX8_init 8 = .ok (.newarray .int, 2) := by decide +kernel
theorem dX8_init_10 : decode cX8_init 10 = .ok (.putfield 9, 3) := by decide +kernel
theorem dX8_init_13 : decode cX8_init 13 = .ok (.aload_n 0, 1) := by decide +kernel
theorem dX8_init_14 : decode cX8_init 14 = .ok (.sipush 128, 3) := by decide +kernel
theorem dX8_init_17 : decode cX8_init 17 = .ok (.newarray .int, 2) := by decide +kernel
theorem dX8_init_19 : decode cX8_init 19 = .ok (.putfield 15, 3) := by decide +kernel
theorem dX8_init_22 : decode cX8_init 22 = .ok (.aload_n 0, 1) := by decide +kernel
theorem dX8_init_23 : decode cX8_init 23 = .ok (.getfield 9, 3) := by decide +kernel
theorem dX8_init_26 : decode cX8_init 26 = .ok (.bipush (-5), 2) := by decide +kernel
theorem dX8_init_28 : decode cX8_init 28 = .ok (.invokestatic 18, 3) := by decide +kernel
theorem dX8_init_31 : decode cX8_init 31 = .ok (.return_, 1) := by decide +kernel
def lx_8 : List (Nat × Nat) := [(0, 8), (1, 128), (1, 128)]
def g_X8_init (k : Nat) (M : Mem) : Mem :=
  (flM (wr (ml (wr (ml M (k + 1) fun _ => 0) k 0 1) (k + 2) fun _ => 0) k 1 1) (k + 1) 128 (-5))
set_option maxRecDepth 100000 in
set_option maxHeartbeats 4000000 in
theorem cd_X8_init (l : Launch) (D : va_G) (cas : Nat → ClassId) (h0 k : Nat) (hL : ∀ j, j < 3 → lay (k + j) = lx_8.getD j (9, 0)) (M : Mem) : zKd l D cas h0 yX8_init cX8_init 1 1 23 2 256 [.ref (h0 + k)] (k + 1) M (k + 3) (g_X8_init k M) := by
  refine zbodyD (by decide) (Nat.le_of_ble_eq_true rfl) ?_
  intro p e s m args below meth c X hr hk0 hnm
  have hnm : meth.name = "<init>" := hnm
  have X : zY p s m args c cX8_init "ShardTrails$Tracks" 1 D cas h0 (k + 1) := X
  refine (?_ : WD p l e (zro 1 23 2 256) s m args below meth c D cas h0 1 (MQ below (zQd D cas h0 (k + 3) (g_X8_init k M)) args s 2 256 (fun q => h0 ≤ q)) 0 0 0 [(0, .ref (h0 + k))] [] (k + 1) M)
  refine D_aload_n X 0 dX8_init_0 rfl rfl ?_
  refine D_obj X wm_X8_3 zo_i zo_c dX8_init_1 (by decide) (Nat.le_of_ble_eq_true rfl) ?_
  refine D_aload_n X 0 dX8_init_4 rfl rfl ?_
  refine D_sipush X dX8_init_5 (by decide +kernel) ?_
  refine D_newa X (atype := .int) (t := 0) (show lay (k + 1) = (1, 128) from hL 1 (by decide)) (by decide) rfl rfl (fun C h => by cases h) rfl wa_int ⟨by decide, by decide⟩ (by decide) (by decide) (by omega) dX8_init_8 ⟨Nat.le_of_ble_eq_true rfl, Nat.le_of_ble_eq_true rfl⟩ ?_
  refine D_putR X (ty := (.array .int)) (k := k) (j := 0) 1 ⟨by omega, (show lay (k) = (0, 8) from hL 0 (by decide))⟩ rfl inX8 tyX8_ok nmX8 (by decide) rfl rfl (by decide) rfl rfl wf_X8_9 rfl hnm rfl (by decide +kernel) (fun _ => rfl) (fun _ => rfl) dX8_init_10 ?_
  refine D_aload_n X 0 dX8_init_13 rfl rfl ?_
  refine D_sipush X dX8_init_14 (by decide +kernel) ?_
  refine D_newa X (atype := .int) (t := 0) (show lay (k + 2) = (1, 128) from hL 2 (by decide)) (by decide) rfl rfl (fun C h => by cases h) rfl wa_int ⟨by decide, by decide⟩ (by decide) (by decide) (by omega) dX8_init_17 ⟨Nat.le_of_ble_eq_true rfl, Nat.le_of_ble_eq_true rfl⟩ ?_
  refine D_putR X (ty := (.array .int)) (k := k) (j := 1) 2 ⟨by omega, (show lay (k) = (0, 8) from hL 0 (by decide))⟩ rfl inX8 tyX8_ok nmX8 (by decide) rfl rfl (by decide) rfl rfl wf_X8_15 rfl hnm rfl (by decide +kernel) (fun _ => rfl) (fun _ => rfl) dX8_init_19 ?_
  refine D_aload_n X 0 dX8_init_22 rfl rfl ?_
  refine D_getR X (k := k) (j := 0) 1 (k + 1) ⟨by omega, (show lay (k) = (0, 8) from hL 0 (by decide))⟩ (by simp [wr, ml, flM, up, Nat.add_assoc]) rfl inX8 (by decide) rfl rfl (by decide) rfl rfl wf_X8_9 dX8_init_23 ?_
  refine D_bipush X dX8_init_26 (by decide +kernel) ?_
  refine D_callS X (av := [.ref (h0 + (k + 1)), .int (zI (-5))]) (rest := []) (cd_fill l D cas h0 (k := k + 1) (N := 128) (v := (-5)) ⟨by omega, (show lay (k + 1) = (1, 128) from hL 1 (by decide))⟩ (by decide) _) zy_fill wm_X8_18 rfl rfl (by omega) ⟨Nat.le_of_ble_eq_true rfl, Nat.le_of_ble_eq_true rfl⟩ ⟨Nat.le_of_ble_eq_true rfl, Nat.le_of_ble_eq_true rfl⟩ (Nat.le_of_ble_eq_true rfl) dX8_init_28 ?_
  exact D_vret X hr hk0 dX8_init_31 rfl rfl rfl rfl
theorem dX0_init_0 : decode cX0_init 0 = .ok (.aload_n 0, 1) := by decide +kernel
theorem dX0_init_1 : decode cX0_init 1 = .ok (.invokespecial 3, 3) := by decide +kernel
theorem dX0_init_4 : decode cX0_init 4 = .ok (.aload_n 0, 1) := by decide +kernel
theorem dX0_init_5 : decode cX0_init 5 = .ok (.bipush 16, 2) := by decide +kernel
theorem dX0_init_7 : decode cX0_init 7 = .ok (.newarray .int, 2) := by decide +kernel
theorem dX0_init_9 : decode cX0_init 9 = .ok (.putfield 9, 3) := by decide +kernel
theorem dX0_init_12 : decode cX0_init 12 = .ok (.aload_n 0, 1) := by decide +kernel
theorem dX0_init_13 : decode cX0_init 13 = .ok (.bipush 16, 2) := by decide +kernel
theorem dX0_init_15 : decode cX0_init 15 = .ok (.newarray .int, 2) := by decide +kernel
theorem dX0_init_17 : decode cX0_init 17 = .ok (.putfield 15, 3) := by decide +kernel
theorem dX0_init_20 : decode cX0_init 20 = .ok (.aload_n 0, 1) := by decide +kernel
theorem dX0_init_21 : decode cX0_init 21 = .ok (.bipush 16, 2) := by decide +kernel
theorem dX0_init_23 : decode cX0_init 23 = .ok (.newarray .int, 2) := by decide +kernel
theorem dX0_init_25 : decode cX0_init 25 = .ok (.putfield 18, 3) := by decide +kernel
theorem dX0_init_28 : decode cX0_init 28 = .ok (.aload_n 0, 1) := by decide +kernel
theorem dX0_init_29 : decode cX0_init 29 = .ok (.sipush 256, 3) := by decide +kernel
theorem dX0_init_32 : decode cX0_init 32 = .ok (.newarray .int, 2) := by decide +kernel
theorem dX0_init_34 : decode cX0_init 34 = .ok (.putfield 21, 3) := by decide +kernel
theorem dX0_init_37 : decode cX0_init 37 = .ok (.return_, 1) := by decide +kernel
def lx_0 : List (Nat × Nat) := [(0, 0), (1, 16), (1, 16), (1, 16), (1, 256)]
def g_X0_init (k : Nat) (M : Mem) : Mem :=
  (wr (ml (wr (ml (wr (ml (wr (ml M (k + 1) fun _ => 0) k 0 1) (k + 2) fun _ => 0) k 1 1) (k + 3) fun _ => 0) k 2 1) (k + 4) fun _ => 0) k 3 1)
set_option maxRecDepth 100000 in
set_option maxHeartbeats 4000000 in
theorem cd_X0_init (l : Launch) (D : va_G) (cas : Nat → ClassId) (h0 k : Nat) (hL : ∀ j, j < 5 → lay (k + j) = lx_0.getD j (9, 0)) (M : Mem) : zKd l D cas h0 yX0_init cX0_init 1 1 20 4 304 [.ref (h0 + k)] (k + 1) M (k + 5) (g_X0_init k M) := by
  refine zbodyD (by decide) (Nat.le_of_ble_eq_true rfl) ?_
  intro p e s m args below meth c X hr hk0 hnm
  have hnm : meth.name = "<init>" := hnm
  have X : zY p s m args c cX0_init "ShardTrails$Herd" 1 D cas h0 (k + 1) := X
  refine (?_ : WD p l e (zro 1 20 4 304) s m args below meth c D cas h0 1 (MQ below (zQd D cas h0 (k + 5) (g_X0_init k M)) args s 4 304 (fun q => h0 ≤ q)) 0 0 0 [(0, .ref (h0 + k))] [] (k + 1) M)
  refine D_aload_n X 0 dX0_init_0 rfl rfl ?_
  refine D_obj X wm_X0_3 zo_i zo_c dX0_init_1 (by decide) (Nat.le_of_ble_eq_true rfl) ?_
  refine D_aload_n X 0 dX0_init_4 rfl rfl ?_
  refine D_bipush X dX0_init_5 (by decide +kernel) ?_
  refine D_newa X (atype := .int) (t := 0) (show lay (k + 1) = (1, 16) from hL 1 (by decide)) (by decide) rfl rfl (fun C h => by cases h) rfl wa_int ⟨by decide, by decide⟩ (by decide) (by decide) (by omega) dX0_init_7 ⟨Nat.le_of_ble_eq_true rfl, Nat.le_of_ble_eq_true rfl⟩ ?_
  refine D_putR X (ty := (.array .int)) (k := k) (j := 0) 1 ⟨by omega, (show lay (k) = (0, 0) from hL 0 (by decide))⟩ rfl inX0 tyX0_ok nmX0 (by decide) rfl rfl (by decide) rfl rfl wf_X0_9 rfl hnm rfl (by decide +kernel) (fun _ => rfl) (fun _ => rfl) dX0_init_9 ?_
  refine D_aload_n X 0 dX0_init_12 rfl rfl ?_
  refine D_bipush X dX0_init_13 (by decide +kernel) ?_
  refine D_newa X (atype := .int) (t := 0) (show lay (k + 2) = (1, 16) from hL 2 (by decide)) (by decide) rfl rfl (fun C h => by cases h) rfl wa_int ⟨by decide, by decide⟩ (by decide) (by decide) (by omega) dX0_init_15 ⟨Nat.le_of_ble_eq_true rfl, Nat.le_of_ble_eq_true rfl⟩ ?_
  refine D_putR X (ty := (.array .int)) (k := k) (j := 1) 2 ⟨by omega, (show lay (k) = (0, 0) from hL 0 (by decide))⟩ rfl inX0 tyX0_ok nmX0 (by decide) rfl rfl (by decide) rfl rfl wf_X0_15 rfl hnm rfl (by decide +kernel) (fun _ => rfl) (fun _ => rfl) dX0_init_17 ?_
  refine D_aload_n X 0 dX0_init_20 rfl rfl ?_
  refine D_bipush X dX0_init_21 (by decide +kernel) ?_
  refine D_newa X (atype := .int) (t := 0) (show lay (k + 3) = (1, 16) from hL 3 (by decide)) (by decide) rfl rfl (fun C h => by cases h) rfl wa_int ⟨by decide, by decide⟩ (by decide) (by decide) (by omega) dX0_init_23 ⟨Nat.le_of_ble_eq_true rfl, Nat.le_of_ble_eq_true rfl⟩ ?_
  refine D_putR X (ty := (.array .int)) (k := k) (j := 2) 3 ⟨by omega, (show lay (k) = (0, 0) from hL 0 (by decide))⟩ rfl inX0 tyX0_ok nmX0 (by decide) rfl rfl (by decide) rfl rfl wf_X0_18 rfl hnm rfl (by decide +kernel) (fun _ => rfl) (fun _ => rfl) dX0_init_25 ?_
  refine D_aload_n X 0 dX0_init_28 rfl rfl ?_
  refine D_sipush X dX0_init_29 (by decide +kernel) ?_
  refine D_newa X (atype := .int) (t := 0) (show lay (k + 4) = (1, 256) from hL 4 (by decide)) (by decide) rfl rfl (fun C h => by cases h) rfl wa_int ⟨by decide, by decide⟩ (by decide) (by decide) (by omega) dX0_init_32 ⟨Nat.le_of_ble_eq_true rfl, Nat.le_of_ble_eq_true rfl⟩ ?_
  refine D_putR X (ty := (.array .int)) (k := k) (j := 3) 4 ⟨by omega, (show lay (k) = (0, 0) from hL 0 (by decide))⟩ rfl inX0 tyX0_ok nmX0 (by decide) rfl rfl (by decide) rfl rfl wf_X0_21 rfl hnm rfl (by decide +kernel) (fun _ => rfl) (fun _ => rfl) dX0_init_34 ?_
  exact D_vret X hr hk0 dX0_init_37 rfl rfl rfl rfl
theorem dX3_init_0 : decode cX3_init 0 = .ok (.aload_n 0, 1) := by decide +kernel
theorem dX3_init_1 : decode cX3_init 1 = .ok (.invokespecial 3, 3) := by decide +kernel
theorem dX3_init_4 : decode cX3_init 4 = .ok (.aload_n 0, 1) := by decide +kernel
theorem dX3_init_5 : decode cX3_init 5 = .ok (.iconst 3, 1) := by decide +kernel
theorem dX3_init_6 : decode cX3_init 6 = .ok (.newarray .int, 2) := by decide +kernel
theorem dX3_init_8 : decode cX3_init 8 = .ok (.putfield 9, 3) := by decide +kernel
theorem dX3_init_11 : decode cX3_init 11 = .ok (.aload_n 0, 1) := by decide +kernel
theorem dX3_init_12 : decode cX3_init 12 = .ok (.iconst 3, 1) := by decide +kernel
theorem dX3_init_13 : decode cX3_init 13 = .ok (.newarray .int, 2) := by decide +kernel
theorem dX3_init_15 : decode cX3_init 15 = .ok (.putfield 15, 3) := by decide +kernel
theorem dX3_init_18 : decode cX3_init 18 = .ok (.return_, 1) := by decide +kernel
def lx_3 : List (Nat × Nat) := [(0, 3), (1, 3), (1, 3)]
def g_X3_init (k : Nat) (M : Mem) : Mem :=
  (wr (ml (wr (ml M (k + 1) fun _ => 0) k 1 1) (k + 2) fun _ => 0) k 2 1)
set_option maxRecDepth 100000 in
set_option maxHeartbeats 4000000 in
theorem cd_X3_init (l : Launch) (D : va_G) (cas : Nat → ClassId) (h0 k : Nat) (hL : ∀ j, j < 3 → lay (k + j) = lx_3.getD j (9, 0)) (M : Mem) : zKd l D cas h0 yX3_init cX3_init 1 1 20 2 6 [.ref (h0 + k)] (k + 1) M (k + 3) (g_X3_init k M) := by
  refine zbodyD (by decide) (Nat.le_of_ble_eq_true rfl) ?_
  intro p e s m args below meth c X hr hk0 hnm
  have hnm : meth.name = "<init>" := hnm
  have X : zY p s m args c cX3_init "ShardTrails$Pack" 1 D cas h0 (k + 1) := X
  refine (?_ : WD p l e (zro 1 20 2 6) s m args below meth c D cas h0 1 (MQ below (zQd D cas h0 (k + 3) (g_X3_init k M)) args s 2 6 (fun q => h0 ≤ q)) 0 0 0 [(0, .ref (h0 + k))] [] (k + 1) M)
  refine D_aload_n X 0 dX3_init_0 rfl rfl ?_
  refine D_obj X wm_X3_3 zo_i zo_c dX3_init_1 (by decide) (Nat.le_of_ble_eq_true rfl) ?_
  refine D_aload_n X 0 dX3_init_4 rfl rfl ?_
  refine D_iconst X dX3_init_5 ?_
  refine D_newa X (atype := .int) (t := 0) (show lay (k + 1) = (1, 3) from hL 1 (by decide)) (by decide) rfl rfl (fun C h => by cases h) rfl wa_int ⟨by decide, by decide⟩ (by decide) (by decide) (by omega) dX3_init_6 ⟨Nat.le_of_ble_eq_true rfl, Nat.le_of_ble_eq_true rfl⟩ ?_
  refine D_putR X (ty := (.array .int)) (k := k) (j := 1) 1 ⟨by omega, (show lay (k) = (0, 3) from hL 0 (by decide))⟩ rfl inX3 tyX3_ok nmX3 (by decide) rfl rfl (by decide) rfl rfl wf_X3_9 rfl hnm rfl (by decide +kernel) (fun _ => rfl) (fun _ => rfl) dX3_init_8 ?_
  refine D_aload_n X 0 dX3_init_11 rfl rfl ?_
  refine D_iconst X dX3_init_12 ?_
  refine D_newa X (atype := .int) (t := 0) (show lay (k + 2) = (1, 3) from hL 2 (by decide)) (by decide) rfl rfl (fun C h => by cases h) rfl wa_int ⟨by decide, by decide⟩ (by decide) (by decide) (by omega) dX3_init_13 ⟨Nat.le_of_ble_eq_true rfl, Nat.le_of_ble_eq_true rfl⟩ ?_
  refine D_putR X (ty := (.array .int)) (k := k) (j := 2) 2 ⟨by omega, (show lay (k) = (0, 3) from hL 0 (by decide))⟩ rfl inX3 tyX3_ok nmX3 (by decide) rfl rfl (by decide) rfl rfl wf_X3_15 rfl hnm rfl (by decide +kernel) (fun _ => rfl) (fun _ => rfl) dX3_init_15 ?_
  exact D_vret X hr hk0 dX3_init_18 rfl rfl rfl rfl
theorem dX4_init_0 : decode cX4_init 0 = .ok (.aload_n 0, 1) := by decide +kernel
theorem dX4_init_1 : decode cX4_init 1 = .ok (.invokespecial 3, 3) := by decide +kernel
theorem dX4_init_4 : decode cX4_init 4 = .ok (.aload_n 0, 1) := by decide +kernel
theorem dX4_init_5 : decode cX4_init 5 = .ok (.bipush 6, 2) := by decide +kernel
theorem dX4_init_7 : decode cX4_init 7 = .ok (.newarray .int, 2) := by decide +kernel
theorem dX4_init_9 : decode cX4_init 9 = .ok (.putfield 9, 3) := by decide +kernel
theorem dX4_init_12 : decode cX4_init 12 = .ok (.aload_n 0, 1) := by decide +kernel
theorem dX4_init_13 : decode cX4_init 13 = .ok (.bipush 6, 2) := by decide +kernel
theorem dX4_init_15 : decode cX4_init 15 = .ok (.newarray .int, 2) := by decide +kernel
theorem dX4_init_17 : decode cX4_init 17 = .ok (.putfield 15, 3) := by decide +kernel
theorem dX4_init_20 : decode cX4_init 20 = .ok (.aload_n 0, 1) := by decide +kernel
theorem dX4_init_21 : decode cX4_init 21 = .ok (.bipush 6, 2) := by decide +kernel
theorem dX4_init_23 : decode cX4_init 23 = .ok (.newarray .int, 2) := by decide +kernel
theorem dX4_init_25 : decode cX4_init 25 = .ok (.putfield 18, 3) := by decide +kernel
theorem dX4_init_28 : decode cX4_init 28 = .ok (.aload_n 0, 1) := by decide +kernel
theorem dX4_init_29 : decode cX4_init 29 = .ok (.bipush 6, 2) := by decide +kernel
theorem dX4_init_31 : decode cX4_init 31 = .ok (.newarray .int, 2) := by decide +kernel
theorem dX4_init_33 : decode cX4_init 33 = .ok (.putfield 21, 3) := by decide +kernel
theorem dX4_init_36 : decode cX4_init 36 = .ok (.aload_n 0, 1) := by decide +kernel
theorem dX4_init_37 : decode cX4_init 37 = .ok (.bipush 6, 2) := by decide +kernel
theorem dX4_init_39 : decode cX4_init 39 = .ok (.newarray .int, 2) := by decide +kernel
theorem dX4_init_41 : decode cX4_init 41 = .ok (.putfield 24, 3) := by decide +kernel
theorem dX4_init_44 : decode cX4_init 44 = .ok (.aload_n 0, 1) := by decide +kernel
theorem dX4_init_45 : decode cX4_init 45 = .ok (.bipush 96, 2) := by decide +kernel
theorem dX4_init_47 : decode cX4_init 47 = .ok (.newarray .int, 2) := by decide +kernel
theorem dX4_init_49 : decode cX4_init 49 = .ok (.putfield 27, 3) := by decide +kernel
theorem dX4_init_52 : decode cX4_init 52 = .ok (.return_, 1) := by decide +kernel
def lx_4 : List (Nat × Nat) := [(0, 4), (1, 6), (1, 6), (1, 6), (1, 6), (1, 6), (1, 96)]
def g_X4_init (k : Nat) (M : Mem) : Mem :=
  (wr (ml (wr (ml (wr (ml (wr (ml (wr (ml (wr (ml M (k + 1) fun _ => 0) k 1 1) (k + 2) fun _ => 0) k 2 1) (k + 3) fun _ => 0) k 3 1) (k + 4) fun _ => 0) k 4 1) (k + 5) fun _ => 0) k 5 1) (k + 6) fun _ => 0) k 6 1)
set_option maxRecDepth 100000 in
set_option maxHeartbeats 4000000 in
theorem cd_X4_init (l : Launch) (D : va_G) (cas : Nat → ClassId) (h0 k : Nat) (hL : ∀ j, j < 7 → lay (k + j) = lx_4.getD j (9, 0)) (M : Mem) : zKd l D cas h0 yX4_init cX4_init 1 1 20 6 126 [.ref (h0 + k)] (k + 1) M (k + 7) (g_X4_init k M) := by
  refine zbodyD (by decide) (Nat.le_of_ble_eq_true rfl) ?_
  intro p e s m args below meth c X hr hk0 hnm
  have hnm : meth.name = "<init>" := hnm
  have X : zY p s m args c cX4_init "ShardTrails$Readers" 1 D cas h0 (k + 1) := X
  refine (?_ : WD p l e (zro 1 20 6 126) s m args below meth c D cas h0 1 (MQ below (zQd D cas h0 (k + 7) (g_X4_init k M)) args s 6 126 (fun q => h0 ≤ q)) 0 0 0 [(0, .ref (h0 + k))] [] (k + 1) M)
  refine D_aload_n X 0 dX4_init_0 rfl rfl ?_
  refine D_obj X wm_X4_3 zo_i zo_c dX4_init_1 (by decide) (Nat.le_of_ble_eq_true rfl) ?_
  refine D_aload_n X 0 dX4_init_4 rfl rfl ?_
  refine D_bipush X dX4_init_5 (by decide +kernel) ?_
  refine D_newa X (atype := .int) (t := 0) (show lay (k + 1) = (1, 6) from hL 1 (by decide)) (by decide) rfl rfl (fun C h => by cases h) rfl wa_int ⟨by decide, by decide⟩ (by decide) (by decide) (by omega) dX4_init_7 ⟨Nat.le_of_ble_eq_true rfl, Nat.le_of_ble_eq_true rfl⟩ ?_
  refine D_putR X (ty := (.array .int)) (k := k) (j := 1) 1 ⟨by omega, (show lay (k) = (0, 4) from hL 0 (by decide))⟩ rfl inX4 tyX4_ok nmX4 (by decide) rfl rfl (by decide) rfl rfl wf_X4_9 rfl hnm rfl (by decide +kernel) (fun _ => rfl) (fun _ => rfl) dX4_init_9 ?_
  refine D_aload_n X 0 dX4_init_12 rfl rfl ?_
  refine D_bipush X dX4_init_13 (by decide +kernel) ?_
  refine D_newa X (atype := .int) (t := 0) (show lay (k + 2) = (1, 6) from hL 2 (by decide)) (by decide) rfl rfl (fun C h => by cases h) rfl wa_int ⟨by decide, by decide⟩ (by decide) (by decide) (by omega) dX4_init_15 ⟨Nat.le_of_ble_eq_true rfl, Nat.le_of_ble_eq_true rfl⟩ ?_
  refine D_putR X (ty := (.array .int)) (k := k) (j := 2) 2 ⟨by omega, (show lay (k) = (0, 4) from hL 0 (by decide))⟩ rfl inX4 tyX4_ok nmX4 (by decide) rfl rfl (by decide) rfl rfl wf_X4_15 rfl hnm rfl (by decide +kernel) (fun _ => rfl) (fun _ => rfl) dX4_init_17 ?_
  refine D_aload_n X 0 dX4_init_20 rfl rfl ?_
  refine D_bipush X dX4_init_21 (by decide +kernel) ?_
  refine D_newa X (atype := .int) (t := 0) (show lay (k + 3) = (1, 6) from hL 3 (by decide)) (by decide) rfl rfl (fun C h => by cases h) rfl wa_int ⟨by decide, by decide⟩ (by decide) (by decide) (by omega) dX4_init_23 ⟨Nat.le_of_ble_eq_true rfl, Nat.le_of_ble_eq_true rfl⟩ ?_
  refine D_putR X (ty := (.array .int)) (k := k) (j := 3) 3 ⟨by omega, (show lay (k) = (0, 4) from hL 0 (by decide))⟩ rfl inX4 tyX4_ok nmX4 (by decide) rfl rfl (by decide) rfl rfl wf_X4_18 rfl hnm rfl (by decide +kernel) (fun _ => rfl) (fun _ => rfl) dX4_init_25 ?_
  refine D_aload_n X 0 dX4_init_28 rfl rfl ?_
  refine D_bipush X dX4_init_29 (by decide +kernel) ?_
  refine D_newa X (atype := .int) (t := 0) (show lay (k + 4) = (1, 6) from hL 4 (by decide)) (by decide) rfl rfl (fun C h => by cases h) rfl wa_int ⟨by decide, by decide⟩ (by decide) (by decide) (by omega) dX4_init_31 ⟨Nat.le_of_ble_eq_true rfl, Nat.le_of_ble_eq_true rfl⟩ ?_
  refine D_putR X (ty := (.array .int)) (k := k) (j := 4) 4 ⟨by omega, (show lay (k) = (0, 4) from hL 0 (by decide))⟩ rfl inX4 tyX4_ok nmX4 (by decide) rfl rfl (by decide) rfl rfl wf_X4_21 rfl hnm rfl (by decide +kernel) (fun _ => rfl) (fun _ => rfl) dX4_init_33 ?_
  refine D_aload_n X 0 dX4_init_36 rfl rfl ?_
  refine D_bipush X dX4_init_37 (by decide +kernel) ?_
  refine D_newa X (atype := .int) (t := 0) (show lay (k + 5) = (1, 6) from hL 5 (by decide)) (by decide) rfl rfl (fun C h => by cases h) rfl wa_int ⟨by decide, by decide⟩ (by decide) (by decide) (by omega) dX4_init_39 ⟨Nat.le_of_ble_eq_true rfl, Nat.le_of_ble_eq_true rfl⟩ ?_
  refine D_putR X (ty := (.array .int)) (k := k) (j := 5) 5 ⟨by omega, (show lay (k) = (0, 4) from hL 0 (by decide))⟩ rfl inX4 tyX4_ok nmX4 (by decide) rfl rfl (by decide) rfl rfl wf_X4_24 rfl hnm rfl (by decide +kernel) (fun _ => rfl) (fun _ => rfl) dX4_init_41 ?_
  refine D_aload_n X 0 dX4_init_44 rfl rfl ?_
  refine D_bipush X dX4_init_45 (by decide +kernel) ?_
  refine D_newa X (atype := .int) (t := 0) (show lay (k + 6) = (1, 96) from hL 6 (by decide)) (by decide) rfl rfl (fun C h => by cases h) rfl wa_int ⟨by decide, by decide⟩ (by decide) (by decide) (by omega) dX4_init_47 ⟨Nat.le_of_ble_eq_true rfl, Nat.le_of_ble_eq_true rfl⟩ ?_
  refine D_putR X (ty := (.array .int)) (k := k) (j := 6) 6 ⟨by omega, (show lay (k) = (0, 4) from hL 0 (by decide))⟩ rfl inX4 tyX4_ok nmX4 (by decide) rfl rfl (by decide) rfl rfl wf_X4_27 rfl hnm rfl (by decide +kernel) (fun _ => rfl) (fun _ => rfl) dX4_init_49 ?_
  exact D_vret X hr hk0 dX4_init_52 rfl rfl rfl rfl
theorem dX7_init_0 : decode cX7_init 0 = .ok (.aload_n 0, 1) := by decide +kernel
theorem dX7_init_1 : decode cX7_init 1 = .ok (.invokespecial 3, 3) := by decide +kernel
theorem dX7_init_4 : decode cX7_init 4 = .ok (.aload_n 0, 1) := by decide +kernel
theorem dX7_init_5 : decode cX7_init 5 = .ok (.getstatic 9, 3) := by decide +kernel
theorem dX7_init_8 : decode cX7_init 8 = .ok (.invokevirtual 13, 3) := by decide +kernel
theorem dX7_init_11 : decode cX7_init 11 = .ok (.checkcast 14, 3) := by decide +kernel
theorem dX7_init_14 : decode cX7_init 14 = .ok (.putfield 18, 3) := by decide +kernel
theorem dX7_init_17 : decode cX7_init 17 = .ok (.aload_n 0, 1) := by decide +kernel
theorem dX7_init_18 : decode cX7_init 18 = .ok (.getstatic 23, 3) := by decide +kernel
theorem dX7_init_21 : decode cX7_init 21 = .ok (.invokevirtual 13, 3) := by decide +kernel
theorem dX7_init_24 : decode cX7_init 24 = .ok (.checkcast 14, 3) := by decide +kernel
theorem dX7_init_27 : decode cX7_init 27 = .ok (.putfield 26, 3) := by decide +kernel
theorem dX7_init_30 : decode cX7_init 30 = .ok (.aload_n 0, 1) := by decide +kernel
theorem dX7_init_31 : decode cX7_init 31 = .ok (.new 29, 3) := by decide +kernel
theorem dX7_init_34 : decode cX7_init 34 = .ok (.dup, 1) := by decide +kernel
theorem dX7_init_35 : decode cX7_init 35 = .ok (.invokespecial 31, 3) := by decide +kernel
theorem dX7_init_38 : decode cX7_init 38 = .ok (.putfield 32, 3) := by decide +kernel
theorem dX7_init_41 : decode cX7_init 41 = .ok (.aload_n 0, 1) := by decide +kernel
theorem dX7_init_42 : decode cX7_init 42 = .ok (.new 36, 3) := by decide +kernel
theorem dX7_init_45 : decode cX7_init 45 = .ok (.dup, 1) := by decide +kernel
theorem dX7_init_46 : decode cX7_init 46 = .ok (.invokespecial 38, 3) := by decide +kernel
theorem dX7_init_49 : decode cX7_init 49 = .ok (.putfield 39, 3) := by decide +kernel
theorem dX7_init_52 : decode cX7_init 52 = .ok (.aload_n 0, 1) := by decide +kernel
theorem dX7_init_53 : decode cX7_init 53 = .ok (.new 43, 3) := by decide +kernel
theorem dX7_init_56 : decode cX7_init 56 = .ok (.dup, 1) := by decide +kernel
theorem dX7_init_57 : decode cX7_init 57 = .ok (.invokespecial 45, 3) := by decide +kernel
theorem dX7_init_60 : decode cX7_init 60 = .ok (.putfield 46, 3) := by decide +kernel
theorem dX7_init_63 : decode cX7_init 63 = .ok (.aload_n 0, 1) := by decide +kernel
theorem dX7_init_64 : decode cX7_init 64 = .ok (.new 50, 3) := by decide +kernel
theorem dX7_init_67 : decode cX7_init 67 = .ok (.dup, 1) := by decide +kernel
theorem dX7_init_68 : decode cX7_init 68 = .ok (.invokespecial 52, 3) := by decide +kernel
theorem dX7_init_71 : decode cX7_init 71 = .ok (.putfield 53, 3) := by decide +kernel
theorem dX7_init_74 : decode cX7_init 74 = .ok (.aload_n 0, 1) := by decide +kernel
theorem dX7_init_75 : decode cX7_init 75 = .ok (.new 57, 3) := by decide +kernel
theorem dX7_init_78 : decode cX7_init 78 = .ok (.dup, 1) := by decide +kernel
theorem dX7_init_79 : decode cX7_init 79 = .ok (.invokespecial 59, 3) := by decide +kernel
theorem dX7_init_82 : decode cX7_init 82 = .ok (.putfield 60, 3) := by decide +kernel
theorem dX7_init_85 : decode cX7_init 85 = .ok (.aload_n 0, 1) := by decide +kernel
theorem dX7_init_86 : decode cX7_init 86 = .ok (.bipush 16, 2) := by decide +kernel
theorem dX7_init_88 : decode cX7_init 88 = .ok (.newarray .int, 2) := by decide +kernel
theorem dX7_init_90 : decode cX7_init 90 = .ok (.putfield 64, 3) := by decide +kernel
theorem dX7_init_93 : decode cX7_init 93 = .ok (.return_, 1) := by decide +kernel
def lx_7 : List (Nat × Nat) := [(0, 7), (1, 6), (1, 4), (0, 2), (1, 8), (1, 8), (1, 8), (1, 8), (2, 8), (1, 128), (0, 8), (1, 128), (1, 128), (0, 0), (1, 16), (1, 16), (1, 16), (1, 256), (0, 3), (1, 3), (1, 3), (0, 4), (1, 6), (1, 6), (1, 6), (1, 6), (1, 6), (1, 96), (1, 16)]
def g_X7_init (k : Nat) (M : Mem) : Mem :=
  (wr (ml (wr (g_X4_init (k + 21) (ml (wr (g_X3_init (k + 18) (ml (wr (g_X0_init (k + 13) (ml (wr (g_X8_init (k + 10) (ml (wr (g_X2_init (k + 3) (ml (wr (ml (wr (ml M (k + 1) zR2) k 3 1) (k + 2) zR3) k 4 1) (k + 3) fun _ => 0)) k 5 1) (k + 10) fun _ => 0)) k 6 1) (k + 13) fun _ => 0)) k 7 1) (k + 18) fun _ => 0)) k 8 1) (k + 21) fun _ => 0)) k 9 1) (k + 28) fun _ => 0) k 10 1)
set_option maxRecDepth 100000 in
set_option maxHeartbeats 4000000 in
theorem cd_X7_init (l : Launch) (D : va_G) (cas : Nat → ClassId) (h0 k : Nat) (hL : ∀ j, j < 29 → lay (k + j) = lx_7.getD j (9, 0)) (M : Mem) : zKd l D cas h0 yX7_init cX7_init 1 2 43 28 909 [.ref (h0 + k)] (k + 1) M (k + 29) (g_X7_init k M) := by
  refine zbodyD (by decide) (Nat.le_of_ble_eq_true rfl) ?_
  intro p e s m args below meth c X hr hk0 hnm
  have hnm : meth.name = "<init>" := hnm
  have X : zY p s m args c cX7_init "ShardTrails$State" 1 D cas h0 (k + 1) := X
  refine (?_ : WD p l e (zro 2 43 28 909) s m args below meth c D cas h0 1 (MQ below (zQd D cas h0 (k + 29) (g_X7_init k M)) args s 28 909 (fun q => h0 ≤ q)) 0 0 0 [(0, .ref (h0 + k))] [] (k + 1) M)
  refine D_aload_n X 0 dX7_init_0 rfl rfl ?_
  refine D_obj X wm_X7_3 zo_i zo_c dX7_init_1 (by decide) (Nat.le_of_ble_eq_true rfl) ?_
  refine D_aload_n X 0 dX7_init_4 rfl rfl ?_
  refine D_gets X X.2.2.2.2.2.2.2.1.2.2.1 (List.mem_of_getElem? (i := 0) rfl) dX7_init_5 (fun t9 ht9 hx9 => ?_)
  refine D_clone X ht9 hx9 (show lay (k + 1) = (1, 6) from hL 1 (by decide)) wm_X7_13 wk_1 wk_2 wk_3 wk_4 (by decide) (Nat.le_of_ble_eq_true rfl) (by omega) dX7_init_8 ⟨Nat.le_of_ble_eq_true rfl, Nat.le_of_ble_eq_true rfl⟩ ?_
  refine D_castI X (k := k + 1) ⟨by omega, (show lay (k + 1) = (1, 6) from hL 1 (by decide))⟩ wc_X7_14 dX7_init_11 ?_
  refine D_putR X (ty := (.array .int)) (k := k) (j := 3) 1 ⟨by omega, (show lay (k) = (0, 7) from hL 0 (by decide))⟩ rfl inX7 tyX7_ok nmX7 (by decide) rfl rfl (by decide) rfl rfl wf_X7_18 rfl hnm rfl (by decide +kernel) (fun _ => rfl) (fun _ => rfl) dX7_init_14 ?_
  refine D_aload_n X 0 dX7_init_17 rfl rfl ?_
  refine D_gets X X.2.2.2.2.2.2.2.1.2.2.2 (List.mem_of_getElem? (i := 1) rfl) dX7_init_18 (fun t23 ht23 hx23 => ?_)
  refine D_clone X ht23 hx23 (show lay (k + 2) = (1, 4) from hL 2 (by decide)) wm_X7_13 wk_1 wk_2 wk_3 wk_4 (by decide) (Nat.le_of_ble_eq_true rfl) (by omega) dX7_init_21 ⟨Nat.le_of_ble_eq_true rfl, Nat.le_of_ble_eq_true rfl⟩ ?_
  refine D_castI X (k := k + 2) ⟨by omega, (show lay (k + 2) = (1, 4) from hL 2 (by decide))⟩ wc_X7_14 dX7_init_24 ?_
  refine D_putR X (ty := (.array .int)) (k := k) (j := 4) 2 ⟨by omega, (show lay (k) = (0, 7) from hL 0 (by decide))⟩ rfl inX7 tyX7_ok nmX7 (by decide) rfl rfl (by decide) rfl rfl wf_X7_26 rfl hnm rfl (by decide +kernel) (fun _ => rfl) (fun _ => rfl) dX7_init_27 ?_
  refine D_aload_n X 0 dX7_init_30 rfl rfl ?_
  refine D_new X tyX2 (show lay (k + 3) = (0, 2) from hL 3 (by decide)) rfl rfl inX2 tyX2_ok dv_2 wc_X7_29 wi_2 wz_2 (by omega) dX7_init_31 ⟨Nat.le_of_ble_eq_true rfl, Nat.le_of_ble_eq_true rfl⟩ ?_
  refine D_dup X dX7_init_34 rfl ?_
  refine D_callI X (cd_X2_init l D cas h0 (k + 3) (fun j hj => by have h9 := hL (3 + j) (by omega); rw [← Nat.add_assoc] at h9; exact h9.trans ((by decide : ∀ j, j < 7 → lx_7.getD (3 + j) (9, 0) = lx_2.getD j (9, 0)) j hj)) _) zyi_X2_init wm_X7_31 (by omega) ⟨Nat.le_of_ble_eq_true rfl, Nat.le_of_ble_eq_true rfl⟩ ⟨Nat.le_of_ble_eq_true rfl, Nat.le_of_ble_eq_true rfl⟩ (Nat.le_of_ble_eq_true rfl) dX7_init_35 ?_
  refine D_putR X (ty := (.object "ShardTrails$Land")) (k := k) (j := 5) 3 ⟨by omega, (show lay (k) = (0, 7) from hL 0 (by decide))⟩ rfl inX7 tyX7_ok nmX7 (by decide) rfl rfl (by decide) rfl rfl wf_X7_32 rfl hnm rfl (by decide +kernel) (fun _ => rfl) (fun _ => rfl) dX7_init_38 ?_
  refine D_aload_n X 0 dX7_init_41 rfl rfl ?_
  refine D_new X tyX8 (show lay (k + 10) = (0, 8) from hL 10 (by decide)) rfl rfl inX8 tyX8_ok dv_8 wc_X7_36 wi_8 wz_8 (by omega) dX7_init_42 ⟨Nat.le_of_ble_eq_true rfl, Nat.le_of_ble_eq_true rfl⟩ ?_
  refine D_dup X dX7_init_45 rfl ?_
  refine D_callI X (cd_X8_init l D cas h0 (k + 10) (fun j hj => by have h9 := hL (10 + j) (by omega); rw [← Nat.add_assoc] at h9; exact h9.trans ((by decide : ∀ j, j < 3 → lx_7.getD (10 + j) (9, 0) = lx_8.getD j (9, 0)) j hj)) _) zyi_X8_init wm_X7_38 (by omega) ⟨Nat.le_of_ble_eq_true rfl, Nat.le_of_ble_eq_true rfl⟩ ⟨Nat.le_of_ble_eq_true rfl, Nat.le_of_ble_eq_true rfl⟩ (Nat.le_of_ble_eq_true rfl) dX7_init_46 ?_
  refine D_putR X (ty := (.object "ShardTrails$Tracks")) (k := k) (j := 6) 10 ⟨by omega, (show lay (k) = (0, 7) from hL 0 (by decide))⟩ rfl inX7 tyX7_ok nmX7 (by decide) rfl rfl (by decide) rfl rfl wf_X7_39 rfl hnm rfl (by decide +kernel) (fun _ => rfl) (fun _ => rfl) dX7_init_49 ?_
  refine D_aload_n X 0 dX7_init_52 rfl rfl ?_
  refine D_new X tyX0 (show lay (k + 13) = (0, 0) from hL 13 (by decide)) rfl rfl inX0 tyX0_ok dv_0 wc_X7_43 wi_0 wz_0 (by omega) dX7_init_53 ⟨Nat.le_of_ble_eq_true rfl, Nat.le_of_ble_eq_true rfl⟩ ?_
  refine D_dup X dX7_init_56 rfl ?_
  refine D_callIN X (cd_X0_init l D cas h0 (k + 13) (fun j hj => by have h9 := hL (13 + j) (by omega); rw [← Nat.add_assoc] at h9; exact h9.trans ((by decide : ∀ j, j < 5 → lx_7.getD (13 + j) (9, 0) = lx_0.getD j (9, 0)) j hj)) _) zyi_X0_init wn_X7_45 (by omega) ⟨Nat.le_of_ble_eq_true rfl, Nat.le_of_ble_eq_true rfl⟩ ⟨Nat.le_of_ble_eq_true rfl, Nat.le_of_ble_eq_true rfl⟩ (Nat.le_of_ble_eq_true rfl) dX7_init_57 ?_
  refine D_putR X (ty := (.object "ShardTrails$Herd")) (k := k) (j := 7) 13 ⟨by omega, (show lay (k) = (0, 7) from hL 0 (by decide))⟩ rfl inX7 tyX7_ok nmX7 (by decide) rfl rfl (by decide) rfl rfl wf_X7_46 rfl hnm rfl (by decide +kernel) (fun _ => rfl) (fun _ => rfl) dX7_init_60 ?_
  refine D_aload_n X 0 dX7_init_63 rfl rfl ?_
  refine D_new X tyX3 (show lay (k + 18) = (0, 3) from hL 18 (by decide)) rfl rfl inX3 tyX3_ok dv_3 wc_X7_50 wi_3 wz_3 (by omega) dX7_init_64 ⟨Nat.le_of_ble_eq_true rfl, Nat.le_of_ble_eq_true rfl⟩ ?_
  refine D_dup X dX7_init_67 rfl ?_
  refine D_callIN X (cd_X3_init l D cas h0 (k + 18) (fun j hj => by have h9 := hL (18 + j) (by omega); rw [← Nat.add_assoc] at h9; exact h9.trans ((by decide : ∀ j, j < 3 → lx_7.getD (18 + j) (9, 0) = lx_3.getD j (9, 0)) j hj)) _) zyi_X3_init wn_X7_52 (by omega) ⟨Nat.le_of_ble_eq_true rfl, Nat.le_of_ble_eq_true rfl⟩ ⟨Nat.le_of_ble_eq_true rfl, Nat.le_of_ble_eq_true rfl⟩ (Nat.le_of_ble_eq_true rfl) dX7_init_68 ?_
  refine D_putR X (ty := (.object "ShardTrails$Pack")) (k := k) (j := 8) 18 ⟨by omega, (show lay (k) = (0, 7) from hL 0 (by decide))⟩ rfl inX7 tyX7_ok nmX7 (by decide) rfl rfl (by decide) rfl rfl wf_X7_53 rfl hnm rfl (by decide +kernel) (fun _ => rfl) (fun _ => rfl) dX7_init_71 ?_
  refine D_aload_n X 0 dX7_init_74 rfl rfl ?_
  refine D_new X tyX4 (show lay (k + 21) = (0, 4) from hL 21 (by decide)) rfl rfl inX4 tyX4_ok dv_4 wc_X7_57 wi_4 wz_4 (by omega) dX7_init_75 ⟨Nat.le_of_ble_eq_true rfl, Nat.le_of_ble_eq_true rfl⟩ ?_
  refine D_dup X dX7_init_78 rfl ?_
  refine D_callIN X (cd_X4_init l D cas h0 (k + 21) (fun j hj => by have h9 := hL (21 + j) (by omega); rw [← Nat.add_assoc] at h9; exact h9.trans ((by decide : ∀ j, j < 7 → lx_7.getD (21 + j) (9, 0) = lx_4.getD j (9, 0)) j hj)) _) zyi_X4_init wn_X7_59 (by omega) ⟨Nat.le_of_ble_eq_true rfl, Nat.le_of_ble_eq_true rfl⟩ ⟨Nat.le_of_ble_eq_true rfl, Nat.le_of_ble_eq_true rfl⟩ (Nat.le_of_ble_eq_true rfl) dX7_init_79 ?_
  refine D_putR X (ty := (.object "ShardTrails$Readers")) (k := k) (j := 9) 21 ⟨by omega, (show lay (k) = (0, 7) from hL 0 (by decide))⟩ rfl inX7 tyX7_ok nmX7 (by decide) rfl rfl (by decide) rfl rfl wf_X7_60 rfl hnm rfl (by decide +kernel) (fun _ => rfl) (fun _ => rfl) dX7_init_82 ?_
  refine D_aload_n X 0 dX7_init_85 rfl rfl ?_
  refine D_bipush X dX7_init_86 (by decide +kernel) ?_
  refine D_newa X (atype := .int) (t := 0) (show lay (k + 28) = (1, 16) from hL 28 (by decide)) (by decide) rfl rfl (fun C h => by cases h) rfl wa_int ⟨by decide, by decide⟩ (by decide) (by decide) (by omega) dX7_init_88 ⟨Nat.le_of_ble_eq_true rfl, Nat.le_of_ble_eq_true rfl⟩ ?_
  refine D_putR X (ty := (.array .int)) (k := k) (j := 10) 28 ⟨by omega, (show lay (k) = (0, 7) from hL 0 (by decide))⟩ rfl inX7 tyX7_ok nmX7 (by decide) rfl rfl (by decide) rfl rfl wf_X7_64 rfl hnm rfl (by decide +kernel) (fun _ => rfl) (fun _ => rfl) dX7_init_90 ?_
  exact D_vret X hr hk0 dX7_init_93 rfl rfl rfl rfl
theorem g_X7_low {k a : Nat} {M : Mem} (h : a < k) : g_X7_init k M a = M a := by
  have h1 : ∀ c, ¬ a = k + c := fun c => by omega
  have h2 : ¬ a = k := by omega
  simp [g_X7_init, g_X2_init, g_X8_init, g_X0_init, g_X3_init, g_X4_init, wr, ml, flM, h1, h2, Nat.add_assoc]
theorem dX1_init_0 : decode cX1_init 0 = .ok (.aload_n 0, 1) := by decide +kernel
theorem dX1_init_1 : decode cX1_init 1 = .ok (.invokespecial 3, 3) := by decide +kernel
theorem dX1_init_4 : decode cX1_init 4 = .ok (.aload_n 0, 1) := by decide +kernel
theorem dX1_init_5 : decode cX1_init 5 = .ok (.iconst 4, 1) := by decide +kernel
theorem dX1_init_6 : decode cX1_init 6 = .ok (.anewarray 9, 3) := by decide +kernel
theorem dX1_init_9 : decode cX1_init 9 = .ok (.putfield 11, 3) := by decide +kernel
theorem dX1_init_12 : decode cX1_init 12 = .ok (.iconst 0, 1) := by decide +kernel
theorem dX1_init_13 : decode cX1_init 13 = .ok (.istore_n 1, 1) := by decide +kernel
theorem dX1_init_14 : decode cX1_init 14 = .ok (.iload_n 1, 1) := by decide +kernel
theorem dX1_init_15 : decode cX1_init 15 = .ok (.iconst 4, 1) := by decide +kernel
theorem dX1_init_16 : decode cX1_init 16 = .ok (.if_icmp .ge 22, 3) := by decide +kernel
theorem dX1_init_19 : decode cX1_init 19 = .ok (.aload_n 0, 1) := by decide +kernel
theorem dX1_init_20 : decode cX1_init 20 = .ok (.getfield 11, 3) := by decide +kernel
theorem dX1_init_23 : decode cX1_init 23 = .ok (.iload_n 1, 1) := by decide +kernel
theorem dX1_init_24 : decode cX1_init 24 = .ok (.new 9, 3) := by decide +kernel
theorem dX1_init_27 : decode cX1_init 27 = .ok (.dup, 1) := by decide +kernel
theorem dX1_init_28 : decode cX1_init 28 = .ok (.invokespecial 17, 3) := by decide +kernel
theorem dX1_init_31 : decode cX1_init 31 = .ok (.aastore, 1) := by decide +kernel
theorem dX1_init_32 : decode cX1_init 32 = .ok (.iinc 1 1, 3) := by decide +kernel
theorem dX1_init_35 : decode cX1_init 35 = .ok (.goto (-21), 3) := by decide +kernel
theorem dX1_init_38 : decode cX1_init 38 = .ok (.return_, 1) := by decide +kernel
def lx_1 : List (Nat × Nat) := [(0, 1), (4, 4), (0, 7), (1, 6), (1, 4), (0, 2), (1, 8), (1, 8), (1, 8), (1, 8), (2, 8), (1, 128), (0, 8), (1, 128), (1, 128), (0, 0), (1, 16), (1, 16), (1, 16), (1, 256), (0, 3), (1, 3), (1, 3), (0, 4), (1, 6), (1, 6), (1, 6), (1, 6), (1, 6), (1, 96), (1, 16), (0, 7), (1, 6), (1, 4), (0, 2), (1, 8), (1, 8), (1, 8), (1, 8), (2, 8), (1, 128), (0, 8), (1, 128), (1, 128), (0, 0), (1, 16), (1, 16), (1, 16), (1, 256), (0, 3), (1, 3), (1, 3), (0, 4), (1, 6), (1, 6), (1, 6), (1, 6), (1, 6), (1, 96), (1, 16), (0, 7), (1, 6), (1, 4), (0, 2), (1, 8), (1, 8), (1, 8), (1, 8), (2, 8), (1, 128), (0, 8), (1, 128), (1, 128), (0, 0), (1, 16), (1, 16), (1, 16), (1, 256), (0, 3), (1, 3), (1, 3), (0, 4), (1, 6), (1, 6), (1, 6), (1, 6), (1, 6), (1, 96), (1, 16), (0, 7), (1, 6), (1, 4), (0, 2), (1, 8), (1, 8), (1, 8), (1, 8), (2, 8), (1, 128), (0, 8), (1, 128), (1, 128), (0, 0), (1, 16), (1, 16), (1, 16), (1, 256), (0, 3), (1, 3), (1, 3), (0, 4), (1, 6), (1, 6), (1, 6), (1, 6), (1, 6), (1, 96), (1, 16)]
def g_X1_init (k : Nat) (M : Mem) : Mem :=
  (wr (g_X7_init (k + 89) (ml (wr (g_X7_init (k + 60) (ml (wr (g_X7_init (k + 31) (ml (wr (g_X7_init (k + 2) (ml (wr (ml M (k + 1) fun _ => 0) k 2 1) (k + 2) fun _ => 0)) (k + 1) 0 1) (k + 31) fun _ => 0)) (k + 1) 1 1) (k + 60) fun _ => 0)) (k + 1) 2 1) (k + 89) fun _ => 0)) (k + 1) 3 1)
set_option maxRecDepth 100000 in
set_option maxHeartbeats 4000000 in
theorem cd_X1_init (l : Launch) (D : va_G) (cas : Nat → ClassId) (h0 k : Nat) (hL : ∀ j, j < 118 → lay (k + j) = lx_1.getD j (9, 0)) (M : Mem) : zKd l D cas h0 yX1_init cX1_init 2 3 63 117 3684 [.ref (h0 + k)] (k + 1) M (k + 118) (g_X1_init k M) := by
  refine zbodyD (by decide) (Nat.le_of_ble_eq_true rfl) ?_
  intro p e s m args below meth c X hr hk0 hnm
  have hnm : meth.name = "<init>" := hnm
  have X : zY p s m args c cX1_init "ShardTrails$History" 2 D cas h0 (k + 1) := X
  refine (?_ : WD p l e (zro 3 63 117 3684) s m args below meth c D cas h0 2 (MQ below (zQd D cas h0 (k + 118) (g_X1_init k M)) args s 117 3684 (fun q => h0 ≤ q)) 0 0 0 [(0, .ref (h0 + k))] [] (k + 1) M)
  refine D_aload_n X 0 dX1_init_0 rfl rfl ?_
  refine D_obj X wm_X1_3 zo_i zo_c dX1_init_1 (by decide) (Nat.le_of_ble_eq_true rfl) ?_
  refine D_aload_n X 0 dX1_init_4 rfl rfl ?_
  refine D_iconst X dX1_init_5 ?_
  refine D_anew X (show lay (k + 1) = (4, 4) from hL 1 (by decide)) ⟨by decide, by decide⟩ rfl wc_X1_9 (by omega) dX1_init_6 ⟨Nat.le_of_ble_eq_true rfl, Nat.le_of_ble_eq_true rfl⟩ ?_
  refine D_putR X (ty := (.array (.object "ShardTrails$State"))) (k := k) (j := 2) 1 ⟨by omega, (show lay (k) = (0, 1) from hL 0 (by decide))⟩ rfl inX1 tyX1_ok nmX1 (by decide) rfl rfl (by decide) rfl rfl wf_X1_11 rfl hnm rfl (by decide +kernel) (fun _ => rfl) (fun _ => rfl) dX1_init_9 ?_
  refine D_iconst X dX1_init_12 ?_
  refine D_istore_n X (lv' := [(1, .int (zI 0)), (0, .ref (h0 + k))]) dX1_init_13 rfl (by decide) rfl ?_
  refine D_iload_n X 0 dX1_init_14 rfl rfl ?_
  refine D_iconst X dX1_init_15 ?_
  refine D_icmp_geF X 38 (by decide) (by decide) dX1_init_16 (by decide) ?_
  refine D_aload_n X 1 dX1_init_19 rfl rfl ?_
  refine D_getR X (k := k) (j := 2) 1 (k + 1) ⟨by omega, (show lay (k) = (0, 1) from hL 0 (by decide))⟩ (by simp [g_X7_low, wr, ml, flM, up, Nat.add_assoc]) rfl inX1 (by decide) rfl rfl (by decide) rfl rfl wf_X1_11 dX1_init_20 ?_
  refine D_iload_n X 0 dX1_init_23 rfl rfl ?_
  refine D_new X tyX7 (show lay (k + 2) = (0, 7) from hL 2 (by decide)) rfl rfl inX7 tyX7_ok dv_7 wc_X1_9 wi_7 wz_7 (by omega) dX1_init_24 ⟨Nat.le_of_ble_eq_true rfl, Nat.le_of_ble_eq_true rfl⟩ ?_
  refine D_dup X dX1_init_27 rfl ?_
  refine D_callIN X (cd_X7_init l D cas h0 (k + 2) (fun j hj => by have h9 := hL (2 + j) (by omega); rw [← Nat.add_assoc] at h9; exact h9.trans ((by decide : ∀ j, j < 29 → lx_1.getD (2 + j) (9, 0) = lx_7.getD j (9, 0)) j hj)) _) zyi_X7_init wn_X1_17 (by omega) ⟨Nat.le_of_ble_eq_true rfl, Nat.le_of_ble_eq_true rfl⟩ ⟨Nat.le_of_ble_eq_true rfl, Nat.le_of_ble_eq_true rfl⟩ (Nat.le_of_ble_eq_true rfl) dX1_init_28 ?_
  refine D_aast X (k := k + 1) (a := k + 2) 0 ⟨by omega, (show lay (k + 1) = (4, 4) from hL 1 (by decide))⟩ (by decide) rfl rfl (by omega) ⟨by omega, (show lay (k + 2) = (0, 7) from hL 2 (by decide))⟩ dX1_init_31 ?_
  refine D_iinc X (lv' := [(1, .int (zI 1)), (0, .ref (h0 + k))]) 0 dX1_init_32 rfl (by decide) (by decide) rfl ?_
  refine D_goto X 14 dX1_init_35 (by decide) ?_
  refine D_iload_n X 0 dX1_init_14 rfl rfl ?_
  refine D_iconst X dX1_init_15 ?_
  refine D_icmp_geF X 38 (by decide) (by decide) dX1_init_16 (by decide) ?_
  refine D_aload_n X 1 dX1_init_19 rfl rfl ?_
  refine D_getR X (k := k) (j := 2) 1 (k + 1) ⟨by omega, (show lay (k) = (0, 1) from hL 0 (by decide))⟩ (by simp [g_X7_low, wr, ml, flM, up, Nat.add_assoc]) rfl inX1 (by decide) rfl rfl (by decide) rfl rfl wf_X1_11 dX1_init_20 ?_
  refine D_iload_n X 0 dX1_init_23 rfl rfl ?_
  refine D_new X tyX7 (show lay (k + 31) = (0, 7) from hL 31 (by decide)) rfl rfl inX7 tyX7_ok dv_7 wc_X1_9 wi_7 wz_7 (by omega) dX1_init_24 ⟨Nat.le_of_ble_eq_true rfl, Nat.le_of_ble_eq_true rfl⟩ ?_
  refine D_dup X dX1_init_27 rfl ?_
  refine D_callIN X (cd_X7_init l D cas h0 (k + 31) (fun j hj => by have h9 := hL (31 + j) (by omega); rw [← Nat.add_assoc] at h9; exact h9.trans ((by decide : ∀ j, j < 29 → lx_1.getD (31 + j) (9, 0) = lx_7.getD j (9, 0)) j hj)) _) zyi_X7_init wn_X1_17 (by omega) ⟨Nat.le_of_ble_eq_true rfl, Nat.le_of_ble_eq_true rfl⟩ ⟨Nat.le_of_ble_eq_true rfl, Nat.le_of_ble_eq_true rfl⟩ (Nat.le_of_ble_eq_true rfl) dX1_init_28 ?_
  refine D_aast X (k := k + 1) (a := k + 31) 1 ⟨by omega, (show lay (k + 1) = (4, 4) from hL 1 (by decide))⟩ (by decide) rfl rfl (by omega) ⟨by omega, (show lay (k + 31) = (0, 7) from hL 31 (by decide))⟩ dX1_init_31 ?_
  refine D_iinc X (lv' := [(1, .int (zI 2)), (0, .ref (h0 + k))]) 0 dX1_init_32 rfl (by decide) (by decide) rfl ?_
  refine D_goto X 14 dX1_init_35 (by decide) ?_
  refine D_iload_n X 0 dX1_init_14 rfl rfl ?_
  refine D_iconst X dX1_init_15 ?_
  refine D_icmp_geF X 38 (by decide) (by decide) dX1_init_16 (by decide) ?_
  refine D_aload_n X 1 dX1_init_19 rfl rfl ?_
  refine D_getR X (k := k) (j := 2) 1 (k + 1) ⟨by omega, (show lay (k) = (0, 1) from hL 0 (by decide))⟩ (by simp [g_X7_low, wr, ml, flM, up, Nat.add_assoc]) rfl inX1 (by decide) rfl rfl (by decide) rfl rfl wf_X1_11 dX1_init_20 ?_
  refine D_iload_n X 0 dX1_init_23 rfl rfl ?_
  refine D_new X tyX7 (show lay (k + 60) = (0, 7) from hL 60 (by decide)) rfl rfl inX7 tyX7_ok dv_7 wc_X1_9 wi_7 wz_7 (by omega) dX1_init_24 ⟨Nat.le_of_ble_eq_true rfl, Nat.le_of_ble_eq_true rfl⟩ ?_
  refine D_dup X dX1_init_27 rfl ?_
  refine D_callIN X (cd_X7_init l D cas h0 (k + 60) (fun j hj => by have h9 := hL (60 + j) (by omega); rw [← Nat.add_assoc] at h9; exact h9.trans ((by decide : ∀ j, j < 29 → lx_1.getD (60 + j) (9, 0) = lx_7.getD j (9, 0)) j hj)) _) zyi_X7_init wn_X1_17 (by omega) ⟨Nat.le_of_ble_eq_true rfl, Nat.le_of_ble_eq_true rfl⟩ ⟨Nat.le_of_ble_eq_true rfl, Nat.le_of_ble_eq_true rfl⟩ (Nat.le_of_ble_eq_true rfl) dX1_init_28 ?_
  refine D_aast X (k := k + 1) (a := k + 60) 2 ⟨by omega, (show lay (k + 1) = (4, 4) from hL 1 (by decide))⟩ (by decide) rfl rfl (by omega) ⟨by omega, (show lay (k + 60) = (0, 7) from hL 60 (by decide))⟩ dX1_init_31 ?_
  refine D_iinc X (lv' := [(1, .int (zI 3)), (0, .ref (h0 + k))]) 0 dX1_init_32 rfl (by decide) (by decide) rfl ?_
  refine D_goto X 14 dX1_init_35 (by decide) ?_
  refine D_iload_n X 0 dX1_init_14 rfl rfl ?_
  refine D_iconst X dX1_init_15 ?_
  refine D_icmp_geF X 38 (by decide) (by decide) dX1_init_16 (by decide) ?_
  refine D_aload_n X 1 dX1_init_19 rfl rfl ?_
  refine D_getR X (k := k) (j := 2) 1 (k + 1) ⟨by omega, (show lay (k) = (0, 1) from hL 0 (by decide))⟩ (by simp [g_X7_low, wr, ml, flM, up, Nat.add_assoc]) rfl inX1 (by decide) rfl rfl (by decide) rfl rfl wf_X1_11 dX1_init_20 ?_
  refine D_iload_n X 0 dX1_init_23 rfl rfl ?_
  refine D_new X tyX7 (show lay (k + 89) = (0, 7) from hL 89 (by decide)) rfl rfl inX7 tyX7_ok dv_7 wc_X1_9 wi_7 wz_7 (by omega) dX1_init_24 ⟨Nat.le_of_ble_eq_true rfl, Nat.le_of_ble_eq_true rfl⟩ ?_
  refine D_dup X dX1_init_27 rfl ?_
  refine D_callIN X (cd_X7_init l D cas h0 (k + 89) (fun j hj => by have h9 := hL (89 + j) (by omega); rw [← Nat.add_assoc] at h9; exact h9.trans ((by decide : ∀ j, j < 29 → lx_1.getD (89 + j) (9, 0) = lx_7.getD j (9, 0)) j hj)) _) zyi_X7_init wn_X1_17 (by omega) ⟨Nat.le_of_ble_eq_true rfl, Nat.le_of_ble_eq_true rfl⟩ ⟨Nat.le_of_ble_eq_true rfl, Nat.le_of_ble_eq_true rfl⟩ (Nat.le_of_ble_eq_true rfl) dX1_init_28 ?_
  refine D_aast X (k := k + 1) (a := k + 89) 3 ⟨by omega, (show lay (k + 1) = (4, 4) from hL 1 (by decide))⟩ (by decide) rfl rfl (by omega) ⟨by omega, (show lay (k + 89) = (0, 7) from hL 89 (by decide))⟩ dX1_init_31 ?_
  refine D_iinc X (lv' := [(1, .int (zI 4)), (0, .ref (h0 + k))]) 0 dX1_init_32 rfl (by decide) (by decide) rfl ?_
  refine D_goto X 14 dX1_init_35 (by decide) ?_
  refine D_iload_n X 0 dX1_init_14 rfl rfl ?_
  refine D_iconst X dX1_init_15 ?_
  refine D_icmp_geT X 38 (by decide) (by decide) dX1_init_16 (by decide) ?_
  exact D_vret X hr hk0 dX1_init_38 rfl rfl rfl rfl
theorem dX6_init_0 : decode cX6_init 0 = .ok (.aload_n 0, 1) := by decide +kernel
theorem dX6_init_1 : decode cX6_init 1 = .ok (.invokespecial 3, 3) := by decide +kernel
theorem dX6_init_4 : decode cX6_init 4 = .ok (.aload_n 0, 1) := by decide +kernel
theorem dX6_init_5 : decode cX6_init 5 = .ok (.sipush 137, 3) := by decide +kernel
theorem dX6_init_8 : decode cX6_init 8 = .ok (.newarray .int, 2) := by decide +kernel
theorem dX6_init_10 : decode cX6_init 10 = .ok (.putfield 9, 3) := by decide +kernel
theorem dX6_init_13 : decode cX6_init 13 = .ok (.aload_n 0, 1) := by decide +kernel
theorem dX6_init_14 : decode cX6_init 14 = .ok (.bipush 8, 2) := by decide +kernel
theorem dX6_init_16 : decode cX6_init 16 = .ok (.newarray .boolean, 2) := by decide +kernel
theorem dX6_init_18 : decode cX6_init 18 = .ok (.putfield 15, 3) := by decide +kernel
theorem dX6_init_21 : decode cX6_init 21 = .ok (.aload_n 0, 1) := by decide +kernel
theorem dX6_init_22 : decode cX6_init 22 = .ok (.bipush 8, 2) := by decide +kernel
theorem dX6_init_24 : decode cX6_init 24 = .ok (.newarray .boolean, 2) := by decide +kernel
theorem dX6_init_26 : decode cX6_init 26 = .ok (.putfield 19, 3) := by decide +kernel
theorem dX6_init_29 : decode cX6_init 29 = .ok (.return_, 1) := by decide +kernel
def lx_6 : List (Nat × Nat) := [(0, 6), (1, 137), (2, 8), (2, 8)]
def g_X6_init (k : Nat) (M : Mem) : Mem :=
  (wr (ml (wr (ml (wr (ml M (k + 1) fun _ => 0) k 6 1) (k + 2) fun _ => 0) k 7 1) (k + 3) fun _ => 0) k 8 1)
set_option maxRecDepth 100000 in
set_option maxHeartbeats 4000000 in
theorem cd_X6_init (l : Launch) (D : va_G) (cas : Nat → ClassId) (h0 k : Nat) (hL : ∀ j, j < 4 → lay (k + j) = lx_6.getD j (9, 0)) (M : Mem) : zKd l D cas h0 yX6_init cX6_init 1 1 20 3 153 [.ref (h0 + k)] (k + 1) M (k + 4) (g_X6_init k M) := by
  refine zbodyD (by decide) (Nat.le_of_ble_eq_true rfl) ?_
  intro p e s m args below meth c X hr hk0 hnm
  have hnm : meth.name = "<init>" := hnm
  have X : zY p s m args c cX6_init "ShardTrails$Route" 1 D cas h0 (k + 1) := X
  refine (?_ : WD p l e (zro 1 20 3 153) s m args below meth c D cas h0 1 (MQ below (zQd D cas h0 (k + 4) (g_X6_init k M)) args s 3 153 (fun q => h0 ≤ q)) 0 0 0 [(0, .ref (h0 + k))] [] (k + 1) M)
  refine D_aload_n X 0 dX6_init_0 rfl rfl ?_
  refine D_obj X wm_X6_3 zo_i zo_c dX6_init_1 (by decide) (Nat.le_of_ble_eq_true rfl) ?_
  refine D_aload_n X 0 dX6_init_4 rfl rfl ?_
  refine D_sipush X dX6_init_5 (by decide +kernel) ?_
  refine D_newa X (atype := .int) (t := 0) (show lay (k + 1) = (1, 137) from hL 1 (by decide)) (by decide) rfl rfl (fun C h => by cases h) rfl wa_int ⟨by decide, by decide⟩ (by decide) (by decide) (by omega) dX6_init_8 ⟨Nat.le_of_ble_eq_true rfl, Nat.le_of_ble_eq_true rfl⟩ ?_
  refine D_putR X (ty := (.array .int)) (k := k) (j := 6) 1 ⟨by omega, (show lay (k) = (0, 6) from hL 0 (by decide))⟩ rfl inX6 tyX6_ok nmX6 (by decide) rfl rfl (by decide) rfl rfl wf_X6_9 rfl hnm rfl (by decide +kernel) (fun _ => rfl) (fun _ => rfl) dX6_init_10 ?_
  refine D_aload_n X 0 dX6_init_13 rfl rfl ?_
  refine D_bipush X dX6_init_14 (by decide +kernel) ?_
  refine D_newa X (atype := .boolean) (t := 1) (show lay (k + 2) = (2, 8) from hL 2 (by decide)) (by decide) rfl rfl (fun C h => by cases h) rfl wa_boolean ⟨by decide, by decide⟩ (by decide) (by decide) (by omega) dX6_init_16 ⟨Nat.le_of_ble_eq_true rfl, Nat.le_of_ble_eq_true rfl⟩ ?_
  refine D_putR X (ty := (.array .boolean)) (k := k) (j := 7) 2 ⟨by omega, (show lay (k) = (0, 6) from hL 0 (by decide))⟩ rfl inX6 tyX6_ok nmX6 (by decide) rfl rfl (by decide) rfl rfl wf_X6_15 rfl hnm rfl (by decide +kernel) (fun _ => rfl) (fun _ => rfl) dX6_init_18 ?_
  refine D_aload_n X 0 dX6_init_21 rfl rfl ?_
  refine D_bipush X dX6_init_22 (by decide +kernel) ?_
  refine D_newa X (atype := .boolean) (t := 1) (show lay (k + 3) = (2, 8) from hL 3 (by decide)) (by decide) rfl rfl (fun C h => by cases h) rfl wa_boolean ⟨by decide, by decide⟩ (by decide) (by decide) (by omega) dX6_init_24 ⟨Nat.le_of_ble_eq_true rfl, Nat.le_of_ble_eq_true rfl⟩ ?_
  refine D_putR X (ty := (.array .boolean)) (k := k) (j := 8) 3 ⟨by omega, (show lay (k) = (0, 6) from hL 0 (by decide))⟩ rfl inX6 tyX6_ok nmX6 (by decide) rfl rfl (by decide) rfl rfl wf_X6_19 rfl hnm rfl (by decide +kernel) (fun _ => rfl) (fun _ => rfl) dX6_init_26 ?_
  exact D_vret X hr hk0 dX6_init_29 rfl rfl rfl rfl
theorem dX5_init_0 : decode cX5_init 0 = .ok (.aload_n 0, 1) := by decide +kernel
theorem dX5_init_1 : decode cX5_init 1 = .ok (.invokespecial 3, 3) := by decide +kernel
theorem dX5_init_4 : decode cX5_init 4 = .ok (.aload_n 0, 1) := by decide +kernel
theorem dX5_init_5 : decode cX5_init 5 = .ok (.bipush 16, 2) := by decide +kernel
theorem dX5_init_7 : decode cX5_init 7 = .ok (.newarray .int, 2) := by decide +kernel
theorem dX5_init_9 : decode cX5_init 9 = .ok (.putfield 9, 3) := by decide +kernel
theorem dX5_init_12 : decode cX5_init 12 = .ok (.aload_n 0, 1) := by decide +kernel
theorem dX5_init_13 : decode cX5_init 13 = .ok (.bipush 16, 2) := by decide +kernel
theorem dX5_init_15 : decode cX5_init 15 = .ok (.newarray .int, 2) := by decide +kernel
theorem dX5_init_17 : decode cX5_init 17 = .ok (.putfield 15, 3) := by decide +kernel
theorem dX5_init_20 : decode cX5_init 20 = .ok (.aload_n 0, 1) := by decide +kernel
theorem dX5_init_21 : decode cX5_init 21 = .ok (.bipush 16, 2) := by decide +kernel
theorem dX5_init_23 : decode cX5_init 23 = .ok (.newarray .int, 2) := by decide +kernel
theorem dX5_init_25 : decode cX5_init 25 = .ok (.putfield 18, 3) := by decide +kernel
theorem dX5_init_28 : decode cX5_init 28 = .ok (.aload_n 0, 1) := by decide +kernel
theorem dX5_init_29 : decode cX5_init 29 = .ok (.bipush 60, 2) := by decide +kernel
theorem dX5_init_31 : decode cX5_init 31 = .ok (.newarray .char, 2) := by decide +kernel
theorem dX5_init_33 : decode cX5_init 33 = .ok (.putfield 21, 3) := by decide +kernel
theorem dX5_init_36 : decode cX5_init 36 = .ok (.return_, 1) := by decide +kernel
def lx_5 : List (Nat × Nat) := [(0, 5), (1, 16), (1, 16), (1, 16), (3, 60)]
def g_X5_init (k : Nat) (M : Mem) : Mem :=
  (wr (ml (wr (ml (wr (ml (wr (ml M (k + 1) fun _ => 0) k 2 1) (k + 2) fun _ => 0) k 3 1) (k + 3) fun _ => 0) k 4 1) (k + 4) fun _ => 0) k 5 1)
set_option maxRecDepth 100000 in
set_option maxHeartbeats 4000000 in
theorem cd_X5_init (l : Launch) (D : va_G) (cas : Nat → ClassId) (h0 k : Nat) (hL : ∀ j, j < 5 → lay (k + j) = lx_5.getD j (9, 0)) (M : Mem) : zKd l D cas h0 yX5_init cX5_init 1 1 20 4 108 [.ref (h0 + k)] (k + 1) M (k + 5) (g_X5_init k M) := by
  refine zbodyD (by decide) (Nat.le_of_ble_eq_true rfl) ?_
  intro p e s m args below meth c X hr hk0 hnm
  have hnm : meth.name = "<init>" := hnm
  have X : zY p s m args c cX5_init "ShardTrails$RequestText" 1 D cas h0 (k + 1) := X
  refine (?_ : WD p l e (zro 1 20 4 108) s m args below meth c D cas h0 1 (MQ below (zQd D cas h0 (k + 5) (g_X5_init k M)) args s 4 108 (fun q => h0 ≤ q)) 0 0 0 [(0, .ref (h0 + k))] [] (k + 1) M)
  refine D_aload_n X 0 dX5_init_0 rfl rfl ?_
  refine D_obj X wm_X5_3 zo_i zo_c dX5_init_1 (by decide) (Nat.le_of_ble_eq_true rfl) ?_
  refine D_aload_n X 0 dX5_init_4 rfl rfl ?_
  refine D_bipush X dX5_init_5 (by decide +kernel) ?_
  refine D_newa X (atype := .int) (t := 0) (show lay (k + 1) = (1, 16) from hL 1 (by decide)) (by decide) rfl rfl (fun C h => by cases h) rfl wa_int ⟨by decide, by decide⟩ (by decide) (by decide) (by omega) dX5_init_7 ⟨Nat.le_of_ble_eq_true rfl, Nat.le_of_ble_eq_true rfl⟩ ?_
  refine D_putR X (ty := (.array .int)) (k := k) (j := 2) 1 ⟨by omega, (show lay (k) = (0, 5) from hL 0 (by decide))⟩ rfl inX5 tyX5_ok nmX5 (by decide) rfl rfl (by decide) rfl rfl wf_X5_9 rfl hnm rfl (by decide +kernel) (fun _ => rfl) (fun _ => rfl) dX5_init_9 ?_
  refine D_aload_n X 0 dX5_init_12 rfl rfl ?_
  refine D_bipush X dX5_init_13 (by decide +kernel) ?_
  refine D_newa X (atype := .int) (t := 0) (show lay (k + 2) = (1, 16) from hL 2 (by decide)) (by decide) rfl rfl (fun C h => by cases h) rfl wa_int ⟨by decide, by decide⟩ (by decide) (by decide) (by omega) dX5_init_15 ⟨Nat.le_of_ble_eq_true rfl, Nat.le_of_ble_eq_true rfl⟩ ?_
  refine D_putR X (ty := (.array .int)) (k := k) (j := 3) 2 ⟨by omega, (show lay (k) = (0, 5) from hL 0 (by decide))⟩ rfl inX5 tyX5_ok nmX5 (by decide) rfl rfl (by decide) rfl rfl wf_X5_15 rfl hnm rfl (by decide +kernel) (fun _ => rfl) (fun _ => rfl) dX5_init_17 ?_
  refine D_aload_n X 0 dX5_init_20 rfl rfl ?_
  refine D_bipush X dX5_init_21 (by decide +kernel) ?_
  refine D_newa X (atype := .int) (t := 0) (show lay (k + 3) = (1, 16) from hL 3 (by decide)) (by decide) rfl rfl (fun C h => by cases h) rfl wa_int ⟨by decide, by decide⟩ (by decide) (by decide) (by omega) dX5_init_23 ⟨Nat.le_of_ble_eq_true rfl, Nat.le_of_ble_eq_true rfl⟩ ?_
  refine D_putR X (ty := (.array .int)) (k := k) (j := 4) 3 ⟨by omega, (show lay (k) = (0, 5) from hL 0 (by decide))⟩ rfl inX5 tyX5_ok nmX5 (by decide) rfl rfl (by decide) rfl rfl wf_X5_18 rfl hnm rfl (by decide +kernel) (fun _ => rfl) (fun _ => rfl) dX5_init_25 ?_
  refine D_aload_n X 0 dX5_init_28 rfl rfl ?_
  refine D_bipush X dX5_init_29 (by decide +kernel) ?_
  refine D_newa X (atype := .char) (t := 2) (show lay (k + 4) = (3, 60) from hL 4 (by decide)) (by decide) rfl rfl (fun C h => by cases h) rfl wa_char ⟨by decide, by decide⟩ (by decide) (by decide) (by omega) dX5_init_31 ⟨Nat.le_of_ble_eq_true rfl, Nat.le_of_ble_eq_true rfl⟩ ?_
  refine D_putR X (ty := (.array .char)) (k := k) (j := 5) 4 ⟨by omega, (show lay (k) = (0, 5) from hL 0 (by decide))⟩ rfl inX5 tyX5_ok nmX5 (by decide) rfl rfl (by decide) rfl rfl wf_X5_21 rfl hnm rfl (by decide +kernel) (fun _ => rfl) (fun _ => rfl) dX5_init_33 ?_
  exact D_vret X hr hk0 dX5_init_36 rfl rfl rfl rfl
theorem dX9_init_0 : decode cX9_init 0 = .ok (.aload_n 0, 1) := by decide +kernel
theorem dX9_init_1 : decode cX9_init 1 = .ok (.invokespecial 3, 3) := by decide +kernel
theorem dX9_init_4 : decode cX9_init 4 = .ok (.aload_n 0, 1) := by decide +kernel
theorem dX9_init_5 : decode cX9_init 5 = .ok (.new 9, 3) := by decide +kernel
theorem dX9_init_8 : decode cX9_init 8 = .ok (.dup, 1) := by decide +kernel
theorem dX9_init_9 : decode cX9_init 9 = .ok (.invokespecial 11, 3) := by decide +kernel
theorem dX9_init_12 : decode cX9_init 12 = .ok (.putfield 12, 3) := by decide +kernel
theorem dX9_init_15 : decode cX9_init 15 = .ok (.aload_n 0, 1) := by decide +kernel
theorem dX9_init_16 : decode cX9_init 16 = .ok (.new 9, 3) := by decide +kernel
theorem dX9_init_19 : decode cX9_init 19 = .ok (.dup, 1) := by decide +kernel
theorem dX9_init_20 : decode cX9_init 20 = .ok (.invokespecial 11, 3) := by decide +kernel
theorem dX9_init_23 : decode cX9_init 23 = .ok (.putfield 16, 3) := by decide +kernel
theorem dX9_init_26 : decode cX9_init 26 = .ok (.aload_n 0, 1) := by decide +kernel
theorem dX9_init_27 : decode cX9_init 27 = .ok (.new 9, 3) := by decide +kernel
theorem dX9_init_30 : decode cX9_init 30 = .ok (.dup, 1) := by decide +kernel
theorem dX9_init_31 : decode cX9_init 31 = .ok (.invokespecial 11, 3) := by decide +kernel
theorem dX9_init_34 : decode cX9_init 34 = .ok (.putfield 19, 3) := by decide +kernel
theorem dX9_init_37 : decode cX9_init 37 = .ok (.aload_n 0, 1) := by decide +kernel
theorem dX9_init_38 : decode cX9_init 38 = .ok (.new 22, 3) := by decide +kernel
theorem dX9_init_41 : decode cX9_init 41 = .ok (.dup, 1) := by decide +kernel
theorem dX9_init_42 : decode cX9_init 42 = .ok (.invokespecial 24, 3) := by decide +kernel
theorem dX9_init_45 : decode cX9_init 45 = .ok (.putfield 25, 3) := by decide +kernel
theorem dX9_init_48 : decode cX9_init 48 = .ok (.aload_n 0, 1) := by decide +kernel
theorem dX9_init_49 : decode cX9_init 49 = .ok (.new 29, 3) := by decide +kernel
theorem dX9_init_52 : decode cX9_init 52 = .ok (.dup, 1) := by decide +kernel
theorem dX9_init_53 : decode cX9_init 53 = .ok (.invokespecial 31, 3) := by decide +kernel
theorem dX9_init_56 : decode cX9_init 56 = .ok (.putfield 32, 3) := by decide +kernel
theorem dX9_init_59 : decode cX9_init 59 = .ok (.aload_n 0, 1) := by decide +kernel
theorem dX9_init_60 : decode cX9_init 60 = .ok (.new 36, 3) := by decide +kernel
theorem dX9_init_63 : decode cX9_init 63 = .ok (.dup, 1) := by decide +kernel
theorem dX9_init_64 : decode cX9_init 64 = .ok (.invokespecial 38, 3) := by decide +kernel
theorem dX9_init_67 : decode cX9_init 67 = .ok (.putfield 39, 3) := by decide +kernel
theorem dX9_init_70 : decode cX9_init 70 = .ok (.return_, 1) := by decide +kernel
def lx_9 : List (Nat × Nat) := [(0, 9), (0, 7), (1, 6), (1, 4), (0, 2), (1, 8), (1, 8), (1, 8), (1, 8), (2, 8), (1, 128), (0, 8), (1, 128), (1, 128), (0, 0), (1, 16), (1, 16), (1, 16), (1, 256), (0, 3), (1, 3), (1, 3), (0, 4), (1, 6), (1, 6), (1, 6), (1, 6), (1, 6), (1, 96), (1, 16), (0, 7), (1, 6), (1, 4), (0, 2), (1, 8), (1, 8), (1, 8), (1, 8), (2, 8), (1, 128), (0, 8), (1, 128), (1, 128), (0, 0), (1, 16), (1, 16), (1, 16), (1, 256), (0, 3), (1, 3), (1, 3), (0, 4), (1, 6), (1, 6), (1, 6), (1, 6), (1, 6), (1, 96), (1, 16), (0, 7), (1, 6), (1, 4), (0, 2), (1, 8), (1, 8), (1, 8), (1, 8), (2, 8), (1, 128), (0, 8), (1, 128), (1, 128), (0, 0), (1, 16), (1, 16), (1, 16), (1, 256), (0, 3), (1, 3), (1, 3), (0, 4), (1, 6), (1, 6), (1, 6), (1, 6), (1, 6), (1, 96), (1, 16), (0, 1), (4, 4), (0, 7), (1, 6), (1, 4), (0, 2), (1, 8), (1, 8), (1, 8), (1, 8), (2, 8), (1, 128), (0, 8), (1, 128), (1, 128), (0, 0), (1, 16), (1, 16), (1, 16), (1, 256), (0, 3), (1, 3), (1, 3), (0, 4), (1, 6), (1, 6), (1, 6), (1, 6), (1, 6), (1, 96), (1, 16), (0, 7), (1, 6), (1, 4), (0, 2), (1, 8), (1, 8), (1, 8), (1, 8), (2, 8), (1, 128), (0, 8), (1, 128), (1, 128), (0, 0), (1, 16), (1, 16), (1, 16), (1, 256), (0, 3), (1, 3), (1, 3), (0, 4), (1, 6), (1, 6), (1, 6), (1, 6), (1, 6), (1, 96), (1, 16), (0, 7), (1, 6), (1, 4), (0, 2), (1, 8), (1, 8), (1, 8), (1, 8), (2, 8), (1, 128), (0, 8), (1, 128), (1, 128), (0, 0), (1, 16), (1, 16), (1, 16), (1, 256), (0, 3), (1, 3), (1, 3), (0, 4), (1, 6), (1, 6), (1, 6), (1, 6), (1, 6), (1, 96), (1, 16), (0, 7), (1, 6), (1, 4), (0, 2), (1, 8), (1, 8), (1, 8), (1, 8), (2, 8), (1, 128), (0, 8), (1, 128), (1, 128), (0, 0), (1, 16), (1, 16), (1, 16), (1, 256), (0, 3), (1, 3), (1, 3), (0, 4), (1, 6), (1, 6), (1, 6), (1, 6), (1, 6), (1, 96), (1, 16), (0, 6), (1, 137), (2, 8), (2, 8), (0, 5), (1, 16), (1, 16), (1, 16), (3, 60)]
def g_X9_init (k : Nat) (M : Mem) : Mem :=
  (wr (g_X5_init (k + 210) (ml (wr (g_X6_init (k + 206) (ml (wr (g_X1_init (k + 88) (ml (wr (g_X7_init (k + 59) (ml (wr (g_X7_init (k + 30) (ml (wr (g_X7_init (k + 1) (ml M (k + 1) fun _ => 0)) k 0 1) (k + 30) fun _ => 0)) k 1 1) (k + 59) fun _ => 0)) k 2 1) (k + 88) fun _ => 0)) k 3 1) (k + 206) fun _ => 0)) k 4 1) (k + 210) fun _ => 0)) k 5 1)
set_option maxRecDepth 100000 in
set_option maxHeartbeats 4000000 in
theorem cd_X9_init (l : Launch) (D : va_G) (cas : Nat → ClassId) (h0 k : Nat) (hL : ∀ j, j < 215 → lay (k + j) = lx_9.getD j (9, 0)) (M : Mem) : zKd l D cas h0 yX9_init cX9_init 1 4 84 214 6724 [.ref (h0 + k)] (k + 1) M (k + 215) (g_X9_init k M) := by
  refine zbodyD (by decide) (Nat.le_of_ble_eq_true rfl) ?_
  intro p e s m args below meth c X hr hk0 hnm
  have hnm : meth.name = "<init>" := hnm
  have X : zY p s m args c cX9_init "ShardTrails" 1 D cas h0 (k + 1) := X
  refine (?_ : WD p l e (zro 4 84 214 6724) s m args below meth c D cas h0 1 (MQ below (zQd D cas h0 (k + 215) (g_X9_init k M)) args s 214 6724 (fun q => h0 ≤ q)) 0 0 0 [(0, .ref (h0 + k))] [] (k + 1) M)
  refine D_aload_n X 0 dX9_init_0 rfl rfl ?_
  refine D_obj X wm_X9_3 zo_i zo_c dX9_init_1 (by decide) (Nat.le_of_ble_eq_true rfl) ?_
  refine D_aload_n X 0 dX9_init_4 rfl rfl ?_
  refine D_new X tyX7 (show lay (k + 1) = (0, 7) from hL 1 (by decide)) rfl rfl inX7 tyX7_ok dv_7 wc_X9_9 wi_7 wz_7 (by omega) dX9_init_5 ⟨Nat.le_of_ble_eq_true rfl, Nat.le_of_ble_eq_true rfl⟩ ?_
  refine D_dup X dX9_init_8 rfl ?_
  refine D_callIN X (cd_X7_init l D cas h0 (k + 1) (fun j hj => by have h9 := hL (1 + j) (by omega); rw [← Nat.add_assoc] at h9; exact h9.trans ((by decide : ∀ j, j < 29 → lx_9.getD (1 + j) (9, 0) = lx_7.getD j (9, 0)) j hj)) _) zyi_X7_init wn_X9_11 (by omega) ⟨Nat.le_of_ble_eq_true rfl, Nat.le_of_ble_eq_true rfl⟩ ⟨Nat.le_of_ble_eq_true rfl, Nat.le_of_ble_eq_true rfl⟩ (Nat.le_of_ble_eq_true rfl) dX9_init_9 ?_
  refine D_putR X (ty := (.object "ShardTrails$State")) (k := k) (j := 0) 1 ⟨by omega, (show lay (k) = (0, 9) from hL 0 (by decide))⟩ rfl inX9 tyX9_ok nmX9 (by decide) rfl rfl (by decide) rfl rfl wf_X9_12 rfl hnm rfl (by decide +kernel) (fun _ => rfl) (fun _ => rfl) dX9_init_12 ?_
  refine D_aload_n X 0 dX9_init_15 rfl rfl ?_
  refine D_new X tyX7 (show lay (k + 30) = (0, 7) from hL 30 (by decide)) rfl rfl inX7 tyX7_ok dv_7 wc_X9_9 wi_7 wz_7 (by omega) dX9_init_16 ⟨Nat.le_of_ble_eq_true rfl, Nat.le_of_ble_eq_true rfl⟩ ?_
  refine D_dup X dX9_init_19 rfl ?_
  refine D_callIN X (cd_X7_init l D cas h0 (k + 30) (fun j hj => by have h9 := hL (30 + j) (by omega); rw [← Nat.add_assoc] at h9; exact h9.trans ((by decide : ∀ j, j < 29 → lx_9.getD (30 + j) (9, 0) = lx_7.getD j (9, 0)) j hj)) _) zyi_X7_init wn_X9_11 (by omega) ⟨Nat.le_of_ble_eq_true rfl, Nat.le_of_ble_eq_true rfl⟩ ⟨Nat.le_of_ble_eq_true rfl, Nat.le_of_ble_eq_true rfl⟩ (Nat.le_of_ble_eq_true rfl) dX9_init_20 ?_
  refine D_putR X (ty := (.object "ShardTrails$State")) (k := k) (j := 1) 30 ⟨by omega, (show lay (k) = (0, 9) from hL 0 (by decide))⟩ rfl inX9 tyX9_ok nmX9 (by decide) rfl rfl (by decide) rfl rfl wf_X9_16 rfl hnm rfl (by decide +kernel) (fun _ => rfl) (fun _ => rfl) dX9_init_23 ?_
  refine D_aload_n X 0 dX9_init_26 rfl rfl ?_
  refine D_new X tyX7 (show lay (k + 59) = (0, 7) from hL 59 (by decide)) rfl rfl inX7 tyX7_ok dv_7 wc_X9_9 wi_7 wz_7 (by omega) dX9_init_27 ⟨Nat.le_of_ble_eq_true rfl, Nat.le_of_ble_eq_true rfl⟩ ?_
  refine D_dup X dX9_init_30 rfl ?_
  refine D_callIN X (cd_X7_init l D cas h0 (k + 59) (fun j hj => by have h9 := hL (59 + j) (by omega); rw [← Nat.add_assoc] at h9; exact h9.trans ((by decide : ∀ j, j < 29 → lx_9.getD (59 + j) (9, 0) = lx_7.getD j (9, 0)) j hj)) _) zyi_X7_init wn_X9_11 (by omega) ⟨Nat.le_of_ble_eq_true rfl, Nat.le_of_ble_eq_true rfl⟩ ⟨Nat.le_of_ble_eq_true rfl, Nat.le_of_ble_eq_true rfl⟩ (Nat.le_of_ble_eq_true rfl) dX9_init_31 ?_
  refine D_putR X (ty := (.object "ShardTrails$State")) (k := k) (j := 2) 59 ⟨by omega, (show lay (k) = (0, 9) from hL 0 (by decide))⟩ rfl inX9 tyX9_ok nmX9 (by decide) rfl rfl (by decide) rfl rfl wf_X9_19 rfl hnm rfl (by decide +kernel) (fun _ => rfl) (fun _ => rfl) dX9_init_34 ?_
  refine D_aload_n X 0 dX9_init_37 rfl rfl ?_
  refine D_new X tyX1 (show lay (k + 88) = (0, 1) from hL 88 (by decide)) rfl rfl inX1 tyX1_ok dv_1 wc_X9_22 wi_1 wz_1 (by omega) dX9_init_38 ⟨Nat.le_of_ble_eq_true rfl, Nat.le_of_ble_eq_true rfl⟩ ?_
  refine D_dup X dX9_init_41 rfl ?_
  refine D_callI X (cd_X1_init l D cas h0 (k + 88) (fun j hj => by have h9 := hL (88 + j) (by omega); rw [← Nat.add_assoc] at h9; exact h9.trans ((by decide : ∀ j, j < 118 → lx_9.getD (88 + j) (9, 0) = lx_1.getD j (9, 0)) j hj)) _) zyi_X1_init wm_X9_24 (by omega) ⟨Nat.le_of_ble_eq_true rfl, Nat.le_of_ble_eq_true rfl⟩ ⟨Nat.le_of_ble_eq_true rfl, Nat.le_of_ble_eq_true rfl⟩ (Nat.le_of_ble_eq_true rfl) dX9_init_42 ?_
  refine D_putR X (ty := (.object "ShardTrails$History")) (k := k) (j := 3) 88 ⟨by omega, (show lay (k) = (0, 9) from hL 0 (by decide))⟩ rfl inX9 tyX9_ok nmX9 (by decide) rfl rfl (by decide) rfl rfl wf_X9_25 rfl hnm rfl (by decide +kernel) (fun _ => rfl) (fun _ => rfl) dX9_init_45 ?_
  refine D_aload_n X 0 dX9_init_48 rfl rfl ?_
  refine D_new X tyX6 (show lay (k + 206) = (0, 6) from hL 206 (by decide)) rfl rfl inX6 tyX6_ok dv_6 wc_X9_29 wi_6 wz_6 (by omega) dX9_init_49 ⟨Nat.le_of_ble_eq_true rfl, Nat.le_of_ble_eq_true rfl⟩ ?_
  refine D_dup X dX9_init_52 rfl ?_
  refine D_callIN X (cd_X6_init l D cas h0 (k + 206) (fun j hj => by have h9 := hL (206 + j) (by omega); rw [← Nat.add_assoc] at h9; exact h9.trans ((by decide : ∀ j, j < 4 → lx_9.getD (206 + j) (9, 0) = lx_6.getD j (9, 0)) j hj)) _) zyi_X6_init wn_X9_31 (by omega) ⟨Nat.le_of_ble_eq_true rfl, Nat.le_of_ble_eq_true rfl⟩ ⟨Nat.le_of_ble_eq_true rfl, Nat.le_of_ble_eq_true rfl⟩ (Nat.le_of_ble_eq_true rfl) dX9_init_53 ?_
  refine D_putR X (ty := (.object "ShardTrails$Route")) (k := k) (j := 4) 206 ⟨by omega, (show lay (k) = (0, 9) from hL 0 (by decide))⟩ rfl inX9 tyX9_ok nmX9 (by decide) rfl rfl (by decide) rfl rfl wf_X9_32 rfl hnm rfl (by decide +kernel) (fun _ => rfl) (fun _ => rfl) dX9_init_56 ?_
  refine D_aload_n X 0 dX9_init_59 rfl rfl ?_
  refine D_new X tyX5 (show lay (k + 210) = (0, 5) from hL 210 (by decide)) rfl rfl inX5 tyX5_ok dv_5 wc_X9_36 wi_5 wz_5 (by omega) dX9_init_60 ⟨Nat.le_of_ble_eq_true rfl, Nat.le_of_ble_eq_true rfl⟩ ?_
  refine D_dup X dX9_init_63 rfl ?_
  refine D_callIN X (cd_X5_init l D cas h0 (k + 210) (fun j hj => by have h9 := hL (210 + j) (by omega); rw [← Nat.add_assoc] at h9; exact h9.trans ((by decide : ∀ j, j < 5 → lx_9.getD (210 + j) (9, 0) = lx_5.getD j (9, 0)) j hj)) _) zyi_X5_init wn_X9_38 (by omega) ⟨Nat.le_of_ble_eq_true rfl, Nat.le_of_ble_eq_true rfl⟩ ⟨Nat.le_of_ble_eq_true rfl, Nat.le_of_ble_eq_true rfl⟩ (Nat.le_of_ble_eq_true rfl) dX9_init_64 ?_
  refine D_putR X (ty := (.object "ShardTrails$RequestText")) (k := k) (j := 5) 210 ⟨by omega, (show lay (k) = (0, 9) from hL 0 (by decide))⟩ rfl inX9 tyX9_ok nmX9 (by decide) rfl rfl (by decide) rfl rfl wf_X9_39 rfl hnm rfl (by decide +kernel) (fun _ => rfl) (fun _ => rfl) dX9_init_67 ?_
  exact D_vret X hr hk0 dX9_init_70 rfl rfl rfl rfl

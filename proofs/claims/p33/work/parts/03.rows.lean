/-! one instruction, one row: over the memory of whole numbers -/
def zX (p : Program) (s : State) (m : MethodId) (args : Array Value) (c : Code) (cc : ByteArray) (own : String) (nL : Nat) (D : va_G) (cas : Nat → ClassId) (ad : Nat → Nat) (A : Nat → Prop) : Prop :=
  p.tables.exec = Jvm.exec ∧ c.code = cc ∧ c.maxLocals = nL ∧ s.vm.findClass own = some m.cls ∧ (∀ w ∈ wsU, w.before args s = true) ∧ va_K D vwCl (zT cas) s ∧ zNW s ∧ (∀ C, va_D A (zG ad C)) ∧ (∀ q, zA ad q → A q) ∧ zST A s s.heap
def WW (p : Program) (l : Launch) (e : Env) (R : Room) (s : State) (m : MethodId) (args : Array Value) (below : List Frame) (meth : Method) (c : Code) (D : va_G) (cas : Nat → ClassId) (ad : Nat → Nat) (A : Nat → Prop) (nL k0 n0 : Nat) (Q : State → Prop) (pc : Nat) (lv : List (Nat × Value)) (st : List Value) (M : Mem) : Prop :=
  ∀ (H : Heap) (locs : List Loc) (ls : Array Slot), va_P D vwCl (zW cas ad M) H → va_S A s.heap H locs → lv_has ls nL lv → W p l e R s m args below meth c H locs k0 n0 Q (F0 m pc ls st)
theorem zgrd {α : Type} {g : Prop} {h : Decidable g} {b : Option α} {y : α} (hf : (if g then b else none) = some y) : g ∧ b = some y := by
  by_cases q : g
  · rw [if_pos q] at hf; exact ⟨q, hf⟩
  · rw [if_neg q] at hf; cases hf
def zbnd (o : Option (Int × Mem)) (g : Int → Mem → Option (Int × Mem)) : Option (Int × Mem) := match o with
  | none => none
  | some q => g q.1 q.2
theorem zbnd_some {o : Option (Int × Mem)} {g : Int → Mem → Option (Int × Mem)} {y : Int × Mem} (h : zbnd o g = some y) : ∃ r M, o = some (r, M) ∧ g r M = some y := by
  cases o with
  | none => cases h
  | some q => exact ⟨q.1, q.2, rfl, h⟩
def zlt {α β : Type} (a : α) (f : α → β) : β := f a
theorem zlt_some {α β : Type} {a : α} {f : α → Option β} {y : β} (h : zlt a f = some y) : ∃ x, x = a ∧ f x = some y := ⟨a, rfl, h⟩
theorem zthen {α : Type} {g : Prop} {h : Decidable g} {a b : Option α} {y : α} (hf : (if g then a else b) = some y) (c : g) : a = some y := by rw [if_pos c] at hf; exact hf
theorem zelse {α : Type} {g : Prop} {h : Decidable g} {a b : Option α} {y : α} (hf : (if g then a else b) = some y) (c : ¬ g) : b = some y := by rw [if_neg c] at hf; exact hf
section ZR
variable {p : Program} {l : Launch} {e : Env} {R : Room} {s : State} {m : MethodId} {args : Array Value} {below : List Frame} {meth : Method} {c : Code} {D : va_G} {cas : Nat → ClassId} {ad : Nat → Nat} {A : Nat → Prop} {nL k0 n0 : Nat} {Q : State → Prop}
variable {cc : ByteArray} {own : String} {pc : Nat} {lv : List (Nat × Value)} {st rest : List Value} {M : Mem}
theorem R_iconst (X : zX p s m args c cc own nL D cas ad A) {n : Int} (hd : decode cc pc = .ok (.iconst n, 1)) (k : WW p l e R s m args below meth c D cas ad A nL k0 n0 Q (pc + 1) lv (.int (zI n) :: st) M) : WW p l e R s m args below meth c D cas ad A nL k0 n0 Q pc lv st M :=
  fun H locs ls hP hS hl => lv_iconst X.1 X.2.1 hd rfl (k H locs ls hP hS hl)
theorem R_bipush (X : zX p s m args c cc own nL D cas ad A) {n : Int} (hd : decode cc pc = .ok (.bipush n, 2)) (hv : (Int8.ofInt n).toInt32 = zI n) (k : WW p l e R s m args below meth c D cas ad A nL k0 n0 Q (pc + 2) lv (.int (zI n) :: st) M) : WW p l e R s m args below meth c D cas ad A nL k0 n0 Q pc lv st M :=
  fun H locs ls hP hS hl => lv_bipush X.1 X.2.1 hd hv (k H locs ls hP hS hl)
theorem R_sipush (X : zX p s m args c cc own nL D cas ad A) {n : Int} (hd : decode cc pc = .ok (.sipush n, 3)) (hv : (Int16.ofInt n).toInt32 = zI n) (k : WW p l e R s m args below meth c D cas ad A nL k0 n0 Q (pc + 3) lv (.int (zI n) :: st) M) : WW p l e R s m args below meth c D cas ad A nL k0 n0 Q pc lv st M :=
  fun H locs ls hP hS hl => lv_sipush X.1 X.2.1 hd hv (k H locs ls hP hS hl)
theorem R_iload_n (X : zX p s m args c cc own nL D cas ad A) {k : Fin 4} {i : Nat} {x : Int32} (j : Nat) (hd : decode cc pc = .ok (.iload_n k, 1)) (hi : (k : Nat) = i) (hj : lv[j]? = some (i, .int x)) (kk : WW p l e R s m args below meth c D cas ad A nL k0 n0 Q (pc + 1) lv (.int x :: st) M) : WW p l e R s m args below meth c D cas ad A nL k0 n0 Q pc lv st M :=
  fun H locs ls hP hS hl => lv_iload_n X.1 X.2.1 hd hi (lv_at hl j hj) (kk H locs ls hP hS hl)
theorem R_iload (X : zX p s m args c cc own nL D cas ad A) {i : Nat} {x : Int32} (j : Nat) (hd : decode cc pc = .ok (.iload i, 2)) (hj : lv[j]? = some (i, .int x)) (kk : WW p l e R s m args below meth c D cas ad A nL k0 n0 Q (pc + 2) lv (.int x :: st) M) : WW p l e R s m args below meth c D cas ad A nL k0 n0 Q pc lv st M :=
  fun H locs ls hP hS hl => lv_iload X.1 X.2.1 hd (lv_at hl j hj) (kk H locs ls hP hS hl)
theorem R_aload_n (X : zX p s m args c cc own nL D cas ad A) {k : Fin 4} {i : Nat} {x : Nat} (j : Nat) (hd : decode cc pc = .ok (.aload_n k, 1)) (hi : (k : Nat) = i) (hj : lv[j]? = some (i, .ref x)) (kk : WW p l e R s m args below meth c D cas ad A nL k0 n0 Q (pc + 1) lv (.ref x :: st) M) : WW p l e R s m args below meth c D cas ad A nL k0 n0 Q pc lv st M :=
  fun H locs ls hP hS hl => lv_aload_n X.1 X.2.1 hd hi (lv_at hl j hj) (kk H locs ls hP hS hl)
theorem R_aload (X : zX p s m args c cc own nL D cas ad A) {i : Nat} {x : Nat} (j : Nat) (hd : decode cc pc = .ok (.aload i, 2)) (hj : lv[j]? = some (i, .ref x)) (kk : WW p l e R s m args below meth c D cas ad A nL k0 n0 Q (pc + 2) lv (.ref x :: st) M) : WW p l e R s m args below meth c D cas ad A nL k0 n0 Q pc lv st M :=
  fun H locs ls hP hS hl => lv_aload X.1 X.2.1 hd (lv_at hl j hj) (kk H locs ls hP hS hl)
theorem R_istore_n (X : zX p s m args c cc own nL D cas ad A) {k : Fin 4} {i : Nat} {x : Int32} {lv' : List (Nat × Value)} (hd : decode cc pc = .ok (.istore_n k, 1)) (hi : (k : Nat) = i) (hn : i < nL) (hl' : (i, Value.int x) :: lv.filter (fun q => !(q.1 == i) && !(q.1 + 1 == i && q.2.category == 2)) = lv') (kk : WW p l e R s m args below meth c D cas ad A nL k0 n0 Q (pc + 1) lv' st M) : WW p l e R s m args below meth c D cas ad A nL k0 n0 Q pc lv (.int x :: st) M :=
  fun H locs _ hP hS hl => lv_istore_n X.1 X.2.1 hd hi hl hn hl' (fun ls' h => kk H locs ls' hP hS h)
theorem R_istore (X : zX p s m args c cc own nL D cas ad A) {i : Nat} {x : Int32} {lv' : List (Nat × Value)} (hd : decode cc pc = .ok (.istore i, 2)) (hn : i < nL) (hl' : (i, Value.int x) :: lv.filter (fun q => !(q.1 == i) && !(q.1 + 1 == i && q.2.category == 2)) = lv') (kk : WW p l e R s m args below meth c D cas ad A nL k0 n0 Q (pc + 2) lv' st M) : WW p l e R s m args below meth c D cas ad A nL k0 n0 Q pc lv (.int x :: st) M :=
  fun H locs _ hP hS hl => lv_istore X.1 X.2.1 hd hl hn hl' (fun ls' h => kk H locs ls' hP hS h)
theorem R_iinc (X : zX p s m args c cc own nL D cas ad A) {i : Nat} {n x : Int} {lv' : List (Nat × Value)} (j : Nat) (hd : decode cc pc = .ok (.iinc i n, 3)) (hj : lv[j]? = some (i, .int (zI x))) (hn : i < nL) (hl' : (i, Value.int (zI (x + n))) :: lv.filter (fun q => !(q.1 == i) && !(q.1 + 1 == i && q.2.category == 2)) = lv') (kk : WW p l e R s m args below meth c D cas ad A nL k0 n0 Q (pc + 3) lv' st M) : WW p l e R s m args below meth c D cas ad A nL k0 n0 Q pc lv st M :=
  fun H locs _ hP hS hl => lv_iinc X.1 X.2.1 hd hl hj (zI_add x n) hn hl' (fun ls' h => kk H locs ls' hP hS h)
theorem R_sub {lv' : List (Nat × Value)} (ks : List Nat) (h : lv_pick lv ks = lv') (kk : WW p l e R s m args below meth c D cas ad A nL k0 n0 Q pc lv' st M) : WW p l e R s m args below meth c D cas ad A nL k0 n0 Q pc lv st M :=
  fun H locs ls hP hS hl => kk H locs ls hP hS (lv_sub hl ks h)
theorem R_iadd (X : zX p s m args c cc own nL D cas ad A) {a b : Int} (hd : decode cc pc = .ok (.iadd, 1)) (k : WW p l e R s m args below meth c D cas ad A nL k0 n0 Q (pc + 1) lv (.int (zI (a + b)) :: st) M) : WW p l e R s m args below meth c D cas ad A nL k0 n0 Q pc lv (.int (zI b) :: .int (zI a) :: st) M :=
  fun H locs ls hP hS hl => lv_iadd X.1 X.2.1 hd (by rw [zI_add]; exact k H locs ls hP hS hl)
theorem R_isub (X : zX p s m args c cc own nL D cas ad A) {a b : Int} (hd : decode cc pc = .ok (.isub, 1)) (k : WW p l e R s m args below meth c D cas ad A nL k0 n0 Q (pc + 1) lv (.int (zI (a - b)) :: st) M) : WW p l e R s m args below meth c D cas ad A nL k0 n0 Q pc lv (.int (zI b) :: .int (zI a) :: st) M :=
  fun H locs ls hP hS hl => lv_isub X.1 X.2.1 hd (by rw [zI_sub]; exact k H locs ls hP hS hl)
theorem R_imul (X : zX p s m args c cc own nL D cas ad A) {a b : Int} (hd : decode cc pc = .ok (.imul, 1)) (k : WW p l e R s m args below meth c D cas ad A nL k0 n0 Q (pc + 1) lv (.int (zI (a * b)) :: st) M) : WW p l e R s m args below meth c D cas ad A nL k0 n0 Q pc lv (.int (zI b) :: .int (zI a) :: st) M :=
  fun H locs ls hP hS hl => lv_imul X.1 X.2.1 hd (by rw [zI_mul]; exact k H locs ls hP hS hl)
theorem R_ineg (X : zX p s m args c cc own nL D cas ad A) {a : Int} (hd : decode cc pc = .ok (.ineg, 1)) (k : WW p l e R s m args below meth c D cas ad A nL k0 n0 Q (pc + 1) lv (.int (zI (-a)) :: st) M) : WW p l e R s m args below meth c D cas ad A nL k0 n0 Q pc lv (.int (zI a) :: st) M :=
  fun H locs ls hP hS hl => lv_ineg X.1 X.2.1 hd (by rw [zI_neg]; exact k H locs ls hP hS hl)
theorem R_idiv (X : zX p s m args c cc own nL D cas ad A) {a b : Int} (hg : (inR a ∧ inR b) ∧ b ≠ 0) (hd : decode cc pc = .ok (.idiv, 1)) (k : WW p l e R s m args below meth c D cas ad A nL k0 n0 Q (pc + 1) lv (.int (zI (a.tdiv b)) :: st) M) : WW p l e R s m args below meth c D cas ad A nL k0 n0 Q pc lv (.int (zI b) :: .int (zI a) :: st) M :=
  fun H locs ls hP hS hl => lv_idiv X.1 X.2.1 hd (fun q => hg.2 ((zI_eq ⟨hg.1.2, by decide⟩).mp (q.trans zI_0))) (by rw [zI_div hg.1]; exact k H locs ls hP hS hl)
theorem R_irem (X : zX p s m args c cc own nL D cas ad A) {a b : Int} (hg : (inR a ∧ inR b) ∧ b ≠ 0) (hd : decode cc pc = .ok (.irem, 1)) (k : WW p l e R s m args below meth c D cas ad A nL k0 n0 Q (pc + 1) lv (.int (zI (a.tmod b)) :: st) M) : WW p l e R s m args below meth c D cas ad A nL k0 n0 Q pc lv (.int (zI b) :: .int (zI a) :: st) M :=
  fun H locs ls hP hS hl => lv_irem X.1 X.2.1 hd (fun q => hg.2 ((zI_eq ⟨hg.1.2, by decide⟩).mp (q.trans zI_0))) (by rw [zI_rem hg.1]; exact k H locs ls hP hS hl)
theorem R_iand (X : zX p s m args c cc own nL D cas ad A) {a b : Int} (hd : decode cc pc = .ok (.iand, 1)) (k : WW p l e R s m args below meth c D cas ad A nL k0 n0 Q (pc + 1) lv (.int (zI (iand a b)) :: st) M) : WW p l e R s m args below meth c D cas ad A nL k0 n0 Q pc lv (.int (zI b) :: .int (zI a) :: st) M :=
  fun H locs ls hP hS hl => lv_iand X.1 X.2.1 hd (by rw [zI_of (zI a &&& zI b)]; exact k H locs ls hP hS hl)
theorem R_ior (X : zX p s m args c cc own nL D cas ad A) {a b : Int} (hd : decode cc pc = .ok (.ior, 1)) (k : WW p l e R s m args below meth c D cas ad A nL k0 n0 Q (pc + 1) lv (.int (zI (ior a b)) :: st) M) : WW p l e R s m args below meth c D cas ad A nL k0 n0 Q pc lv (.int (zI b) :: .int (zI a) :: st) M :=
  fun H locs ls hP hS hl => lv_ior X.1 X.2.1 hd (by rw [zI_of (zI a ||| zI b)]; exact k H locs ls hP hS hl)
theorem R_ishl (X : zX p s m args c cc own nL D cas ad A) {a b : Int} (hd : decode cc pc = .ok (.ishl, 1)) (k : WW p l e R s m args below meth c D cas ad A nL k0 n0 Q (pc + 1) lv (.int (zI (ishl a b)) :: st) M) : WW p l e R s m args below meth c D cas ad A nL k0 n0 Q pc lv (.int (zI b) :: .int (zI a) :: st) M :=
  fun H locs ls hP hS hl => lv_ishl X.1 X.2.1 hd (by rw [zI_of (zI a <<< (zI b &&& 31))]; exact k H locs ls hP hS hl)
theorem R_ishr (X : zX p s m args c cc own nL D cas ad A) {a b : Int} (hd : decode cc pc = .ok (.ishr, 1)) (k : WW p l e R s m args below meth c D cas ad A nL k0 n0 Q (pc + 1) lv (.int (zI (ishr a b)) :: st) M) : WW p l e R s m args below meth c D cas ad A nL k0 n0 Q pc lv (.int (zI b) :: .int (zI a) :: st) M :=
  fun H locs ls hP hS hl => lv_ishr X.1 X.2.1 hd (by rw [zI_of (zI a >>> (zI b &&& 31))]; exact k H locs ls hP hS hl)
theorem R_i2c (X : zX p s m args c cc own nL D cas ad A) {a : Int} (hg : inR a) (hd : decode cc pc = .ok (.i2c, 1)) (k : WW p l e R s m args below meth c D cas ad A nL k0 n0 Q (pc + 1) lv (.int (zI (a % 65536)) :: st) M) : WW p l e R s m args below meth c D cas ad A nL k0 n0 Q pc lv (.int (zI a) :: st) M :=
  fun H locs ls hP hS hl => lv_i2c X.1 X.2.1 hd (zI_c2 hg) (k H locs ls hP hS hl)
theorem R_dup (X : zX p s m args c cc own nL D cas ad A) {v : Value} (hd : decode cc pc = .ok (.dup, 1)) (hv : v.category = 1) (k : WW p l e R s m args below meth c D cas ad A nL k0 n0 Q (pc + 1) lv (v :: v :: st) M) : WW p l e R s m args below meth c D cas ad A nL k0 n0 Q pc lv (v :: st) M :=
  fun H locs ls hP hS hl => lv_dup X.1 X.2.1 hd hv (k H locs ls hP hS hl)
theorem R_dup2 (X : zX p s m args c cc own nL D cas ad A) {v w : Value} (hd : decode cc pc = .ok (.dup2, 1)) (hv : v.category = 1) (hw : w.category = 1) (k : WW p l e R s m args below meth c D cas ad A nL k0 n0 Q (pc + 1) lv (v :: w :: v :: w :: st) M) : WW p l e R s m args below meth c D cas ad A nL k0 n0 Q pc lv (v :: w :: st) M :=
  fun H locs ls hP hS hl => lv_dup2_11 X.1 X.2.1 hd hv hw (k H locs ls hP hS hl)
theorem R_dup_x1 (X : zX p s m args c cc own nL D cas ad A) {v w : Value} (hd : decode cc pc = .ok (.dup_x1, 1)) (hv : v.category = 1) (hw : w.category = 1) (k : WW p l e R s m args below meth c D cas ad A nL k0 n0 Q (pc + 1) lv (v :: w :: v :: st) M) : WW p l e R s m args below meth c D cas ad A nL k0 n0 Q pc lv (v :: w :: st) M :=
  fun H locs ls hP hS hl => lv_dup_x1 X.1 X.2.1 hd hv hw (k H locs ls hP hS hl)
theorem R_pop (X : zX p s m args c cc own nL D cas ad A) {v : Value} (hd : decode cc pc = .ok (.pop, 1)) (hv : v.category = 1) (k : WW p l e R s m args below meth c D cas ad A nL k0 n0 Q (pc + 1) lv st M) : WW p l e R s m args below meth c D cas ad A nL k0 n0 Q pc lv (v :: st) M :=
  fun H locs ls hP hS hl => lv_pop X.1 X.2.1 hd hv (k H locs ls hP hS hl)
theorem R_goto (X : zX p s m args c cc own nL D cas ad A) {o : Int} (tgt : Nat) (hd : decode cc pc = .ok (.goto o, 3)) (ht : (pc : Int) + o = (tgt : Int)) (k : WW p l e R s m args below meth c D cas ad A nL k0 n0 Q tgt lv st M) : WW p l e R s m args below meth c D cas ad A nL k0 n0 Q pc lv st M :=
  fun H locs ls hP hS hl => lv_goto X.1 X.2.1 hd ht (k H locs ls hP hS hl)
theorem zI_r0 : inR 0 := by decide
theorem zI_eq0 {a : Int} (h : inR a) : zI a = 0 ↔ a = 0 := by rw [zI_0]; exact zI_eq ⟨h, zI_r0⟩
theorem zI_lt0 {a : Int} (h : inR a) : zI a < 0 ↔ a < 0 := by rw [zI_0]; exact zI_lt ⟨h, zI_r0⟩
theorem zI_le0 {a : Int} (h : inR a) : zI a ≤ 0 ↔ a ≤ 0 := by rw [zI_0]; exact zI_le ⟨h, zI_r0⟩
theorem zI_ge0 {a : Int} (h : inR a) : 0 ≤ zI a ↔ 0 ≤ a := by rw [zI_0]; exact zI_le ⟨zI_r0, h⟩
theorem zI_gt0 {a : Int} (h : inR a) : 0 < zI a ↔ 0 < a := by rw [zI_0]; exact zI_lt ⟨zI_r0, h⟩
theorem zI_eqW {a b : Int} (h : a = b ∨ (inR a ∧ inR b)) : zI a = zI b ↔ a = b := h.elim (fun e => ⟨fun _ => e, fun _ => by rw [e]⟩) zI_eq
theorem R_icmp_eq (X : zX p s m args c cc own nL D cas ad A) {a b : Int} {o : Int} (tgt : Nat) (hg : inR a ∧ inR b) (hd : decode cc pc = .ok (.if_icmp .eq o, 3)) (ht : (pc : Int) + o = (tgt : Int)) (kt : a = b → WW p l e R s m args below meth c D cas ad A nL k0 n0 Q tgt lv st M) (kf : ¬ (a = b) → WW p l e R s m args below meth c D cas ad A nL k0 n0 Q (pc + 3) lv st M) : WW p l e R s m args below meth c D cas ad A nL k0 n0 Q pc lv (.int (zI b) :: .int (zI a) :: st) M :=
  fun H locs ls hP hS hl => lv_icmp_eq X.1 X.2.1 hd ht (fun q => kt ((zI_eq hg).mp q) H locs ls hP hS hl) (fun q => kf (fun z => q ((zI_eq hg).mpr z)) H locs ls hP hS hl)
theorem R_icmp_ne (X : zX p s m args c cc own nL D cas ad A) {a b : Int} {o : Int} (tgt : Nat) (hg : inR a ∧ inR b) (hd : decode cc pc = .ok (.if_icmp .ne o, 3)) (ht : (pc : Int) + o = (tgt : Int)) (kt : ¬ (a = b) → WW p l e R s m args below meth c D cas ad A nL k0 n0 Q tgt lv st M) (kf : a = b → WW p l e R s m args below meth c D cas ad A nL k0 n0 Q (pc + 3) lv st M) : WW p l e R s m args below meth c D cas ad A nL k0 n0 Q pc lv (.int (zI b) :: .int (zI a) :: st) M :=
  fun H locs ls hP hS hl => lv_icmp_ne X.1 X.2.1 hd ht (fun q => kt (fun z => q ((zI_eq hg).mpr z)) H locs ls hP hS hl) (fun q => kf ((zI_eq hg).mp q) H locs ls hP hS hl)
theorem R_icmp_lt (X : zX p s m args c cc own nL D cas ad A) {a b : Int} {o : Int} (tgt : Nat) (hg : inR a ∧ inR b) (hd : decode cc pc = .ok (.if_icmp .lt o, 3)) (ht : (pc : Int) + o = (tgt : Int)) (kt : a < b → WW p l e R s m args below meth c D cas ad A nL k0 n0 Q tgt lv st M) (kf : ¬ (a < b) → WW p l e R s m args below meth c D cas ad A nL k0 n0 Q (pc + 3) lv st M) : WW p l e R s m args below meth c D cas ad A nL k0 n0 Q pc lv (.int (zI b) :: .int (zI a) :: st) M :=
  fun H locs ls hP hS hl => lv_icmp_lt X.1 X.2.1 hd ht (fun q => kt ((zI_lt hg).mp q) H locs ls hP hS hl) (fun q => kf (fun z => q ((zI_lt hg).mpr z)) H locs ls hP hS hl)
theorem R_icmp_ge (X : zX p s m args c cc own nL D cas ad A) {a b : Int} {o : Int} (tgt : Nat) (hg : inR a ∧ inR b) (hd : decode cc pc = .ok (.if_icmp .ge o, 3)) (ht : (pc : Int) + o = (tgt : Int)) (kt : b ≤ a → WW p l e R s m args below meth c D cas ad A nL k0 n0 Q tgt lv st M) (kf : ¬ (b ≤ a) → WW p l e R s m args below meth c D cas ad A nL k0 n0 Q (pc + 3) lv st M) : WW p l e R s m args below meth c D cas ad A nL k0 n0 Q pc lv (.int (zI b) :: .int (zI a) :: st) M :=
  fun H locs ls hP hS hl => lv_icmp_ge X.1 X.2.1 hd ht (fun q => kt ((zI_le ⟨hg.2, hg.1⟩).mp q) H locs ls hP hS hl) (fun q => kf (fun z => q ((zI_le ⟨hg.2, hg.1⟩).mpr z)) H locs ls hP hS hl)
theorem R_icmp_gt (X : zX p s m args c cc own nL D cas ad A) {a b : Int} {o : Int} (tgt : Nat) (hg : inR a ∧ inR b) (hd : decode cc pc = .ok (.if_icmp .gt o, 3)) (ht : (pc : Int) + o = (tgt : Int)) (kt : b < a → WW p l e R s m args below meth c D cas ad A nL k0 n0 Q tgt lv st M) (kf : ¬ (b < a) → WW p l e R s m args below meth c D cas ad A nL k0 n0 Q (pc + 3) lv st M) : WW p l e R s m args below meth c D cas ad A nL k0 n0 Q pc lv (.int (zI b) :: .int (zI a) :: st) M :=
  fun H locs ls hP hS hl => lv_icmp_gt X.1 X.2.1 hd ht (fun q => kt ((zI_lt ⟨hg.2, hg.1⟩).mp q) H locs ls hP hS hl) (fun q => kf (fun z => q ((zI_lt ⟨hg.2, hg.1⟩).mpr z)) H locs ls hP hS hl)
theorem R_icmp_le (X : zX p s m args c cc own nL D cas ad A) {a b : Int} {o : Int} (tgt : Nat) (hg : inR a ∧ inR b) (hd : decode cc pc = .ok (.if_icmp .le o, 3)) (ht : (pc : Int) + o = (tgt : Int)) (kt : a ≤ b → WW p l e R s m args below meth c D cas ad A nL k0 n0 Q tgt lv st M) (kf : ¬ (a ≤ b) → WW p l e R s m args below meth c D cas ad A nL k0 n0 Q (pc + 3) lv st M) : WW p l e R s m args below meth c D cas ad A nL k0 n0 Q pc lv (.int (zI b) :: .int (zI a) :: st) M :=
  fun H locs ls hP hS hl => lv_icmp_le X.1 X.2.1 hd ht (fun q => kt ((zI_le hg).mp q) H locs ls hP hS hl) (fun q => kf (fun z => q ((zI_le hg).mpr z)) H locs ls hP hS hl)
theorem R_if_eq (X : zX p s m args c cc own nL D cas ad A) {a : Int} {o : Int} (tgt : Nat) (hg : inR a) (hd : decode cc pc = .ok (.ifCond .eq o, 3)) (ht : (pc : Int) + o = (tgt : Int)) (kt : a = 0 → WW p l e R s m args below meth c D cas ad A nL k0 n0 Q tgt lv st M) (kf : ¬ (a = 0) → WW p l e R s m args below meth c D cas ad A nL k0 n0 Q (pc + 3) lv st M) : WW p l e R s m args below meth c D cas ad A nL k0 n0 Q pc lv (.int (zI a) :: st) M :=
  fun H locs ls hP hS hl => lv_if_eq X.1 X.2.1 hd ht (fun q => kt ((zI_eq0 hg).mp q) H locs ls hP hS hl) (fun q => kf (fun z => q ((zI_eq0 hg).mpr z)) H locs ls hP hS hl)
theorem R_if_ne (X : zX p s m args c cc own nL D cas ad A) {a : Int} {o : Int} (tgt : Nat) (hg : inR a) (hd : decode cc pc = .ok (.ifCond .ne o, 3)) (ht : (pc : Int) + o = (tgt : Int)) (kt : ¬ (a = 0) → WW p l e R s m args below meth c D cas ad A nL k0 n0 Q tgt lv st M) (kf : a = 0 → WW p l e R s m args below meth c D cas ad A nL k0 n0 Q (pc + 3) lv st M) : WW p l e R s m args below meth c D cas ad A nL k0 n0 Q pc lv (.int (zI a) :: st) M :=
  fun H locs ls hP hS hl => lv_if_ne X.1 X.2.1 hd ht (fun q => kt (fun z => q ((zI_eq0 hg).mpr z)) H locs ls hP hS hl) (fun q => kf ((zI_eq0 hg).mp q) H locs ls hP hS hl)
theorem R_if_lt (X : zX p s m args c cc own nL D cas ad A) {a : Int} {o : Int} (tgt : Nat) (hg : inR a) (hd : decode cc pc = .ok (.ifCond .lt o, 3)) (ht : (pc : Int) + o = (tgt : Int)) (kt : a < 0 → WW p l e R s m args below meth c D cas ad A nL k0 n0 Q tgt lv st M) (kf : ¬ (a < 0) → WW p l e R s m args below meth c D cas ad A nL k0 n0 Q (pc + 3) lv st M) : WW p l e R s m args below meth c D cas ad A nL k0 n0 Q pc lv (.int (zI a) :: st) M :=
  fun H locs ls hP hS hl => lv_if_lt X.1 X.2.1 hd ht (fun q => kt ((zI_lt0 hg).mp q) H locs ls hP hS hl) (fun q => kf (fun z => q ((zI_lt0 hg).mpr z)) H locs ls hP hS hl)
theorem R_if_ge (X : zX p s m args c cc own nL D cas ad A) {a : Int} {o : Int} (tgt : Nat) (hg : inR a) (hd : decode cc pc = .ok (.ifCond .ge o, 3)) (ht : (pc : Int) + o = (tgt : Int)) (kt : 0 ≤ a → WW p l e R s m args below meth c D cas ad A nL k0 n0 Q tgt lv st M) (kf : ¬ (0 ≤ a) → WW p l e R s m args below meth c D cas ad A nL k0 n0 Q (pc + 3) lv st M) : WW p l e R s m args below meth c D cas ad A nL k0 n0 Q pc lv (.int (zI a) :: st) M :=
  fun H locs ls hP hS hl => lv_if_ge X.1 X.2.1 hd ht (fun q => kt ((zI_ge0 hg).mp q) H locs ls hP hS hl) (fun q => kf (fun z => q ((zI_ge0 hg).mpr z)) H locs ls hP hS hl)
theorem R_if_gt (X : zX p s m args c cc own nL D cas ad A) {a : Int} {o : Int} (tgt : Nat) (hg : inR a) (hd : decode cc pc = .ok (.ifCond .gt o, 3)) (ht : (pc : Int) + o = (tgt : Int)) (kt : 0 < a → WW p l e R s m args below meth c D cas ad A nL k0 n0 Q tgt lv st M) (kf : ¬ (0 < a) → WW p l e R s m args below meth c D cas ad A nL k0 n0 Q (pc + 3) lv st M) : WW p l e R s m args below meth c D cas ad A nL k0 n0 Q pc lv (.int (zI a) :: st) M :=
  fun H locs ls hP hS hl => lv_if_gt X.1 X.2.1 hd ht (fun q => kt ((zI_gt0 hg).mp q) H locs ls hP hS hl) (fun q => kf (fun z => q ((zI_gt0 hg).mpr z)) H locs ls hP hS hl)
theorem R_if_le (X : zX p s m args c cc own nL D cas ad A) {a : Int} {o : Int} (tgt : Nat) (hg : inR a) (hd : decode cc pc = .ok (.ifCond .le o, 3)) (ht : (pc : Int) + o = (tgt : Int)) (kt : a ≤ 0 → WW p l e R s m args below meth c D cas ad A nL k0 n0 Q tgt lv st M) (kf : ¬ (a ≤ 0) → WW p l e R s m args below meth c D cas ad A nL k0 n0 Q (pc + 3) lv st M) : WW p l e R s m args below meth c D cas ad A nL k0 n0 Q pc lv (.int (zI a) :: st) M :=
  fun H locs ls hP hS hl => lv_if_le X.1 X.2.1 hd ht (fun q => kt ((zI_le0 hg).mp q) H locs ls hP hS hl) (fun q => kf (fun z => q ((zI_le0 hg).mpr z)) H locs ls hP hS hl)
theorem R_icmp_eqW (X : zX p s m args c cc own nL D cas ad A) {a b : Int} {o : Int} (tgt : Nat) (hg : a = b ∨ (inR a ∧ inR b)) (hd : decode cc pc = .ok (.if_icmp .eq o, 3)) (ht : (pc : Int) + o = (tgt : Int)) (kt : a = b → WW p l e R s m args below meth c D cas ad A nL k0 n0 Q tgt lv st M) (kf : ¬ (a = b) → WW p l e R s m args below meth c D cas ad A nL k0 n0 Q (pc + 3) lv st M) : WW p l e R s m args below meth c D cas ad A nL k0 n0 Q pc lv (.int (zI b) :: .int (zI a) :: st) M :=
  fun H locs ls hP hS hl => lv_icmp_eq X.1 X.2.1 hd ht (fun q => kt ((zI_eqW hg).mp q) H locs ls hP hS hl) (fun q => kf (fun z => q ((zI_eqW hg).mpr z)) H locs ls hP hS hl)
theorem R_icmp_neW (X : zX p s m args c cc own nL D cas ad A) {a b : Int} {o : Int} (tgt : Nat) (hg : a = b ∨ (inR a ∧ inR b)) (hd : decode cc pc = .ok (.if_icmp .ne o, 3)) (ht : (pc : Int) + o = (tgt : Int)) (kt : ¬ (a = b) → WW p l e R s m args below meth c D cas ad A nL k0 n0 Q tgt lv st M) (kf : a = b → WW p l e R s m args below meth c D cas ad A nL k0 n0 Q (pc + 3) lv st M) : WW p l e R s m args below meth c D cas ad A nL k0 n0 Q pc lv (.int (zI b) :: .int (zI a) :: st) M :=
  fun H locs ls hP hS hl => lv_icmp_ne X.1 X.2.1 hd ht (fun q => kt (fun z => q ((zI_eqW hg).mpr z)) H locs ls hP hS hl) (fun q => kf ((zI_eqW hg).mp q) H locs ls hP hS hl)
theorem R_tableOut (X : zX p s m args c cc own nL D cas ad A) {dflt lo hi : Int} {offs : Array Int} {len : Nat} {a : Int} (tgt : Nat) (hg : inR a) (hd : decode cc pc = .ok (.tableswitch dflt lo hi offs, len)) (h : a < lo ∨ hi < a) (ht : (pc : Int) + dflt = (tgt : Int)) (k : WW p l e R s m args below meth c D cas ad A nL k0 n0 Q tgt lv st M) : WW p l e R s m args below meth c D cas ad A nL k0 n0 Q pc lv (.int (zI a) :: st) M :=
  fun H locs ls hP hS hl => lv_tableOut X.1 X.2.1 hd (by rw [zI_toInt hg]; exact h) ht (k H locs ls hP hS hl)
theorem R_tableIn (X : zX p s m args c cc own nL D cas ad A) {dflt lo hi : Int} {offs : Array Int} {len : Nat} {a v o : Int} (tgt : Nat) (hv : a = v) (hd : decode cc pc = .ok (.tableswitch dflt lo hi offs, len)) (hg : inR v) (h1 : ¬ v < lo) (h2 : ¬ hi < v) (ho : offs[(v - lo).toNat]? = some o) (ht : (pc : Int) + o = (tgt : Int)) (k : WW p l e R s m args below meth c D cas ad A nL k0 n0 Q tgt lv st M) : WW p l e R s m args below meth c D cas ad A nL k0 n0 Q pc lv (.int (zI a) :: st) M :=
  fun H locs ls hP hS hl => lv_tableIn (off := o) X.1 X.2.1 hd (by rw [hv, zI_toInt hg]; exact h1) (by rw [hv, zI_toInt hg]; exact h2) (by rw [hv, zI_toInt hg]; exact ho) ht (k H locs ls hP hS hl)
theorem zF_int {ci n j : Nat} {k : Nat} {f : Nat → Int} (hn : nfl ci = n) (hj : j < n) (h0 : off ci j = 0) : ((List.range (nfl ci)).map (fun j => if off ci j = 0 then Value.int (zI (f j)) else .ref (ad (k + off ci j))))[j]? = some (.int (zI (f j))) := by
  rw [List.getElem?_map, List.getElem?_range (by omega)]
  simp [h0]
theorem zF_ref {ci n j o : Nat} {k : Nat} {f : Nat → Int} (hn : nfl ci = n) (hj : j < n) (h0 : off ci j = o) (ho : 0 < o) : ((List.range (nfl ci)).map (fun j => if off ci j = 0 then Value.int (zI (f j)) else .ref (ad (k + off ci j))))[j]? = some (.ref (ad (k + o))) := by
  rw [List.getElem?_map, List.getElem?_range (by omega)]
  have : ¬ off ci j = 0 := by omega
  simp [this, h0]
  omega
theorem zF_set {ci n j : Nat} {k : Nat} {f : Nat → Int} {v : Int} (hn : nfl ci = n) (hj : j < n) (h0 : off ci j = 0) : ((List.range (nfl ci)).map (fun j => if off ci j = 0 then Value.int (zI (f j)) else .ref (ad (k + off ci j)))).set j (.int (zI v)) = (List.range (nfl ci)).map (fun i => if off ci i = 0 then Value.int (zI (up f j v i)) else .ref (ad (k + off ci i))) := by
  apply List.ext_getElem?
  intro i
  rw [List.getElem?_set]
  by_cases e : j = i
  · subst e
    rw [if_pos rfl, List.getElem?_map, List.getElem?_range (by omega)]
    simp [h0, up]
    omega
  · rw [if_neg e, List.getElem?_map, List.getElem?_map]
    by_cases hi : i < nfl ci
    · rw [List.getElem?_range hi]
      have e2 : ¬ i = j := fun q => e q.symm
      simp [up, e2]
    · rw [List.getElem?_eq_none (by simp; omega)]
      rfl
theorem R_getI (X : zX p s m args c cc own nL D cas ad A) {k ci j ix N : Nat} {C ref : String} {T : u_T} (hk : k < zN ∧ lay k = (0, ci)) (hc : vwCl[ci]? = some (C, T, N)) (hin : ∀ w ∈ u_ws C T N, w ∈ wsU) (hj : j < N) (hn : nfl ci = N) (h0 : off ci j = 0) (href : (T j).1 = ref) (hlink : Cond.fieldLink own ix ref (T j).2.1 (T j).2.2.1 ∈ wsU) (hd : decode cc pc = .ok (.getfield ix, 3)) (kk : WW p l e R s m args below meth c D cas ad A nL k0 n0 Q (pc + 3) lv (.int (zI (M k j)) :: st) M) : WW p l e R s m args below meth c D cas ad A nL k0 n0 Q pc lv (.ref (ad k) :: st) M := by
  obtain ⟨x1, x2, x3, x4, x5, x6, x7, x8, x9, x10⟩ := X
  intro H locs ls hP hS hl
  have he := zW_get (cas := cas) (ad := ad) (M := M) hk.1
  rw [zC_0 hk.2] at he
  exact va_get x1 x2 x5 hin x4 x6 hP k he hc j hj (x5 _ hlink) (fun x h => by rw [← href]; exact h) (zF_int hn hj h0) hd (kk H locs ls hP hS hl)
theorem R_getR (X : zX p s m args c cc own nL D cas ad A) {k ci j ix N : Nat} {C ref : String} {T : u_T} (o kt : Nat) (hk : k < zN ∧ lay k = (0, ci)) (hc : vwCl[ci]? = some (C, T, N)) (hin : ∀ w ∈ u_ws C T N, w ∈ wsU) (hj : j < N) (hn : nfl ci = N) (h0 : off ci j = o) (ho : 0 < o) (hkt : k + o = kt) (href : (T j).1 = ref) (hlink : Cond.fieldLink own ix ref (T j).2.1 (T j).2.2.1 ∈ wsU) (hd : decode cc pc = .ok (.getfield ix, 3)) (kk : WW p l e R s m args below meth c D cas ad A nL k0 n0 Q (pc + 3) lv (.ref (ad kt) :: st) M) : WW p l e R s m args below meth c D cas ad A nL k0 n0 Q pc lv (.ref (ad k) :: st) M := by
  obtain ⟨x1, x2, x3, x4, x5, x6, x7, x8, x9, x10⟩ := X
  subst hkt
  intro H locs ls hP hS hl
  have he := zW_get (cas := cas) (ad := ad) (M := M) hk.1
  rw [zC_0 hk.2] at he
  exact va_get x1 x2 x5 hin x4 x6 hP k he hc j hj (x5 _ hlink) (fun x h => by rw [← href]; exact h) (zF_ref hn hj h0 ho) hd (kk H locs ls hP hS hl)
theorem R_put (X : zX p s m args c cc own nL D cas ad A) {k ci j ix N : Nat} {C ref : String} {T : u_T} {v : Int} {ty0 : Nat → FieldType} {ty : FieldType} (hk : k < zN ∧ lay k = (0, ci)) (hc : vwCl[ci]? = some (C, T, N)) (hin : ∀ w ∈ u_ws C T N, w ∈ wsU) (hty : ∀ k, k < N → parseFieldDescriptor (T k).2.2.1 = some (ty0 k)) (hnm : ∀ a, a < N → ∀ b, b < N → a ≠ b → (T a).2.1 ≠ (T b).2.1) (hj : j < N) (hn : nfl ci = N) (h0 : off ci j = 0) (href : (T j).1 = ref) (hlink : Cond.fieldLink own ix ref (T j).2.1 (T j).2.2.1 ∈ wsU) (hfin : (T j).2.2.2 = false) (hde : parseFieldDescriptor (T j).2.2.1 = some ty) (hna : narrow ty (.int (zI v)) = .int (zI v)) (hfit : fits ty (.int (zI v)) = true) (hd : decode cc pc = .ok (.putfield ix, 3)) (kk : WW p l e R s m args below meth c D cas ad A nL k0 n0 Q (pc + 3) lv st (wr M k j v)) : WW p l e R s m args below meth c D cas ad A nL k0 n0 Q pc lv (.int (zI v) :: .ref (ad k) :: st) M := by
  obtain ⟨x1, x2, x3, x4, x5, x6, x7, x8, x9, x10⟩ := X
  intro H locs ls hP hS hl
  have he := zW_get (cas := cas) (ad := ad) (M := M) hk.1
  rw [zC_0 hk.2] at he
  refine va_put x1 x2 x5 hin ty0 hty hnm x4 x6 hP (x8 _) hS k he hc j hj (x5 _ hlink) (fun x h => by rw [← href]; exact h) hfin hde hna hfit (by simp; omega) hd (fun H1 locs1 hP1 _ hS1 => kk H1 locs1 ls ?_ hS1 hl)
  rw [zF_set hn hj h0] at hP1
  have h9 := zW_set (cas := cas) (ad := ad) (M := M) hk.1 (zC_0 (cas := cas) (ad := ad) (f := up (M k) j v) hk.2).symm
  rw [h9] at hP1
  exact hP1
theorem z_nI (v : Int) : narrow .int (.int (zI v)) = .int (zI v) := rfl
theorem z_fI (v : Int) : fits .int (.int (zI v)) = true := rfl
theorem z_nZ {v : Int} (h : v = 0 ∨ v = 1) : narrow .boolean (.int (zI v)) = .int (zI v) := by rcases h with rfl | rfl <;> decide +kernel
theorem z_fZ {v : Int} (h : v = 0 ∨ v = 1) : fits .boolean (.int (zI v)) = true := by rcases h with rfl | rfl <;> decide +kernel
theorem z_vZ {v : Int} (h : v = 0 ∨ v = 1) : vp_nar .boolean (zI v) = zI v := by rcases h with rfl | rfl <;> decide +kernel
theorem z_vC {v : Int} (h : 0 ≤ v ∧ v < 65536) : vp_nar .char (zI v) = zI v := by
  rw [vp_nar_char]
  have e : (zI v).toUInt32.toUInt16.toUInt32.toInt32 = ((zI v).toUInt32 % 65536).toInt32 := by
    congr 1
  rw [e, zI_c2 ⟨by omega, by omega⟩]
  congr 1
  omega
theorem R_iald (X : zX p s m args c cc own nL D cas ad A) {k n : Nat} {i : Int} (hk : k < zN ∧ lay k = (1, n)) (hi : 0 ≤ i ∧ i < (n : Int)) (hd : decode cc pc = .ok (.iaload, 1)) (kk : WW p l e R s m args below meth c D cas ad A nL k0 n0 Q (pc + 1) lv (.int (zI (M k i.toNat)) :: st) M) : WW p l e R s m args below meth c D cas ad A nL k0 n0 Q pc lv (.int (zI i) :: .ref (ad k) :: st) M := by
  obtain ⟨x1, x2, x3, x4, x5, x6, x7, x8, x9, x10⟩ := X
  intro H locs ls hP hS hl
  have he := zW_get (cas := cas) (ad := ad) (M := M) hk.1
  rw [zC_1 hk.2] at he
  have hs : n ≤ 2147483647 := by have := lay_small k hk.1; rw [hk.2] at this; dsimp at this; omega
  refine va_iald x1 x2 x6 hP k 0 he rfl (zI_vp hi hs) hd ?_
  rw [zI_cl hi hs]
  exact kk H locs ls hP hS hl
theorem R_zald (X : zX p s m args c cc own nL D cas ad A) {k n : Nat} {i : Int} (hk : k < zN ∧ lay k = (2, n)) (hi : 0 ≤ i ∧ i < (n : Int)) (hd : decode cc pc = .ok (.baload, 1)) (kk : WW p l e R s m args below meth c D cas ad A nL k0 n0 Q (pc + 1) lv (.int (zI (M k i.toNat)) :: st) M) : WW p l e R s m args below meth c D cas ad A nL k0 n0 Q pc lv (.int (zI i) :: .ref (ad k) :: st) M := by
  obtain ⟨x1, x2, x3, x4, x5, x6, x7, x8, x9, x10⟩ := X
  intro H locs ls hP hS hl
  have he := zW_get (cas := cas) (ad := ad) (M := M) hk.1
  rw [zC_2 hk.2] at he
  have hs : n ≤ 2147483647 := by have := lay_small k hk.1; rw [hk.2] at this; dsimp at this; omega
  refine va_zald x1 x2 x6 hP k 1 he rfl (zI_vp hi hs) hd ?_
  rw [zI_cl hi hs]
  exact kk H locs ls hP hS hl
theorem R_cald (X : zX p s m args c cc own nL D cas ad A) {k n : Nat} {i : Int} (hk : k < zN ∧ lay k = (3, n)) (hi : 0 ≤ i ∧ i < (n : Int)) (hd : decode cc pc = .ok (.caload, 1)) (kk : WW p l e R s m args below meth c D cas ad A nL k0 n0 Q (pc + 1) lv (.int (zI (M k i.toNat)) :: st) M) : WW p l e R s m args below meth c D cas ad A nL k0 n0 Q pc lv (.int (zI i) :: .ref (ad k) :: st) M := by
  obtain ⟨x1, x2, x3, x4, x5, x6, x7, x8, x9, x10⟩ := X
  intro H locs ls hP hS hl
  have he := zW_get (cas := cas) (ad := ad) (M := M) hk.1
  rw [zC_3 hk.2] at he
  have hs : n ≤ 2147483647 := by have := lay_small k hk.1; rw [hk.2] at this; dsimp at this; omega
  refine va_cald x1 x2 x6 hP k 2 he rfl (zI_vp hi hs) hd ?_
  rw [zI_cl hi hs]
  exact kk H locs ls hP hS hl
theorem R_aald (X : zX p s m args c cc own nL D cas ad A) {k n : Nat} {i : Int} (kt : Nat) (hk : k < zN ∧ lay k = (4, n)) (hi : 0 ≤ i ∧ i < (n : Int)) (hkt : k + 1 + 29 * i.toNat = kt) (hd : decode cc pc = .ok (.aaload, 1)) (kk : WW p l e R s m args below meth c D cas ad A nL k0 n0 Q (pc + 1) lv (.ref (ad kt) :: st) M) : WW p l e R s m args below meth c D cas ad A nL k0 n0 Q pc lv (.int (zI i) :: .ref (ad k) :: st) M := by
  obtain ⟨x1, x2, x3, x4, x5, x6, x7, x8, x9, x10⟩ := X
  intro H locs ls hP hS hl
  have he := zW_get (cas := cas) (ad := ad) (M := M) hk.1
  rw [zC_4 hk.2] at he
  have hs : n ≤ 2147483647 := by have := lay_small k hk.1; rw [hk.2] at this; dsimp at this; omega
  refine va_aldq x1 x2 x6 hP k 3 he rfl (zI_vp hi hs) hd ?_
  rw [zI_cl hi hs, hkt]
  exact kk H locs ls hP hS hl
theorem z_upd {f : Nat → Int} {i : Nat} {v : Int} : upd (fun j => zI (f j)) i (zI v) = fun j => zI (up f i v j) := by
  funext j
  by_cases e : j = i
  · subst e; simp [upd, up]
  · simp [upd, up, e]
theorem R_iast (X : zX p s m args c cc own nL D cas ad A) {k n : Nat} {i v : Int} (hk : k < zN ∧ lay k = (1, n)) (hi : 0 ≤ i ∧ i < (n : Int)) (hd : decode cc pc = .ok (.iastore, 1)) (kk : WW p l e R s m args below meth c D cas ad A nL k0 n0 Q (pc + 1) lv st (wr M k i.toNat v)) : WW p l e R s m args below meth c D cas ad A nL k0 n0 Q pc lv (.int (zI v) :: .int (zI i) :: .ref (ad k) :: st) M := by
  obtain ⟨x1, x2, x3, x4, x5, x6, x7, x8, x9, x10⟩ := X
  intro H locs ls hP hS hl
  have he := zW_get (cas := cas) (ad := ad) (M := M) hk.1
  rw [zC_1 hk.2] at he
  have hs : n ≤ 2147483647 := by have := lay_small k hk.1; rw [hk.2] at this; dsimp at this; omega
  refine va_iast x1 x2 x6 hP (x8 _) hS k 0 he rfl (zI_vp hi hs) hd (fun H1 locs1 hP1 _ hS1 => kk H1 locs1 ls ?_ hS1 hl)
  rw [zI_cl hi hs, z_upd] at hP1
  have h9 := zW_set (cas := cas) (ad := ad) (M := M) hk.1 (zC_1 (cas := cas) (ad := ad) (f := up (M k) i.toNat v) hk.2).symm
  rw [h9] at hP1
  exact hP1
theorem R_zast (X : zX p s m args c cc own nL D cas ad A) {k n : Nat} {i v : Int} (hk : k < zN ∧ lay k = (2, n)) (hi : 0 ≤ i ∧ i < (n : Int)) (hv : v = 0 ∨ v = 1) (hd : decode cc pc = .ok (.bastore, 1)) (kk : WW p l e R s m args below meth c D cas ad A nL k0 n0 Q (pc + 1) lv st (wr M k i.toNat v)) : WW p l e R s m args below meth c D cas ad A nL k0 n0 Q pc lv (.int (zI v) :: .int (zI i) :: .ref (ad k) :: st) M := by
  obtain ⟨x1, x2, x3, x4, x5, x6, x7, x8, x9, x10⟩ := X
  intro H locs ls hP hS hl
  have he := zW_get (cas := cas) (ad := ad) (M := M) hk.1
  rw [zC_2 hk.2] at he
  have hs : n ≤ 2147483647 := by have := lay_small k hk.1; rw [hk.2] at this; dsimp at this; omega
  refine va_zast x1 x2 x6 hP (x8 _) hS k 1 he rfl (zI_vp hi hs) hd (fun H1 locs1 hP1 _ hS1 => kk H1 locs1 ls ?_ hS1 hl)
  rw [zI_cl hi hs, z_vZ hv, z_upd] at hP1
  have h9 := zW_set (cas := cas) (ad := ad) (M := M) hk.1 (zC_2 (cas := cas) (ad := ad) (f := up (M k) i.toNat v) hk.2).symm
  rw [h9] at hP1
  exact hP1
theorem R_cast (X : zX p s m args c cc own nL D cas ad A) {k n : Nat} {i v : Int} (hk : k < zN ∧ lay k = (3, n)) (hi : 0 ≤ i ∧ i < (n : Int)) (hv : 0 ≤ v ∧ v < 65536) (hd : decode cc pc = .ok (.castore, 1)) (kk : WW p l e R s m args below meth c D cas ad A nL k0 n0 Q (pc + 1) lv st (wr M k i.toNat v)) : WW p l e R s m args below meth c D cas ad A nL k0 n0 Q pc lv (.int (zI v) :: .int (zI i) :: .ref (ad k) :: st) M := by
  obtain ⟨x1, x2, x3, x4, x5, x6, x7, x8, x9, x10⟩ := X
  intro H locs ls hP hS hl
  have he := zW_get (cas := cas) (ad := ad) (M := M) hk.1
  rw [zC_3 hk.2] at he
  have hs : n ≤ 2147483647 := by have := lay_small k hk.1; rw [hk.2] at this; dsimp at this; omega
  refine va_cast x1 x2 x6 hP (x8 _) hS k 2 he rfl (zI_vp hi hs) hd (fun H1 locs1 hP1 _ hS1 => kk H1 locs1 ls ?_ hS1 hl)
  rw [zI_cl hi hs, z_vC hv, z_upd] at hP1
  have h9 := zW_set (cas := cas) (ad := ad) (M := M) hk.1 (zC_3 (cas := cas) (ad := ad) (f := up (M k) i.toNat v) hk.2).symm
  rw [h9] at hP1
  exact hP1
theorem R_alen (X : zX p s m args c cc own nL D cas ad A) {k n : Nat} (hk : k < zN ∧ lay k = (1, n)) (hd : decode cc pc = .ok (.arraylength, 1)) (kk : WW p l e R s m args below meth c D cas ad A nL k0 n0 Q (pc + 1) lv (.int (zI (n : Int)) :: st) M) : WW p l e R s m args below meth c D cas ad A nL k0 n0 Q pc lv (.ref (ad k) :: st) M := by
  obtain ⟨x1, x2, x3, x4, x5, x6, x7, x8, x9, x10⟩ := X
  intro H locs ls hP hS hl
  have he := zW_get (cas := cas) (ad := ad) (M := M) hk.1
  rw [zC_1 hk.2] at he
  exact va_alen x1 x2 x6 hP k 0 he rfl (zI_ofNat n) hd (kk H locs ls hP hS hl)
theorem z_cpy {f g : Nat → Int} {sp dp n : Nat} : va_cpy (fun j => zI (f j)) (fun j => zI (g j)) sp dp n = fun j => zI (cpf f g sp dp n j) := by
  funext j
  unfold va_cpy cpf
  by_cases e : dp ≤ j ∧ j < dp + n
  · rw [if_pos e, if_pos e]
  · rw [if_neg e, if_neg e]
theorem R_copy (X : zX p s m args c cc own nL D cas ad A) {k1 k2 n1 n2 ix : Nat} {sp dp n : Int} (hk1 : k1 < zN ∧ lay k1 = (1, n1)) (hk2 : k2 < zN ∧ lay k2 = (1, n2)) (hg : (0 ≤ sp ∧ 0 ≤ dp ∧ 0 ≤ n) ∧ sp + n ≤ (n1 : Int) ∧ dp + n ≤ (n2 : Int)) (hlink : Cond.methodLink own ix arraycopyName ∈ wsU) (hnat : Cond.native arraycopyName ∈ wsU) (hstat : Cond.static arraycopyName ∈ wsU) (hini : Cond.initialized "java/lang/System" ∈ wsU) (hframes : 1 ≤ R.frames) (hlocals : (st.map fun v => v.category).sum + (nativeFrameWords "java/lang/System" "arraycopy" 5 + 11) ≤ R.locals) (hd : decode cc pc = .ok (.invokestatic ix, 3)) (kk : WW p l e R s m args below meth c D cas ad A nL k0 n0 Q (pc + 3) lv st (cpM M k1 sp k2 dp n)) : WW p l e R s m args below meth c D cas ad A nL k0 n0 Q pc lv (.int (zI n) :: .int (zI dp) :: .ref (ad k2) :: .int (zI sp) :: .ref (ad k1) :: st) M := by
  obtain ⟨x1, x2, x3, x4, x5, x6, x7, x8, x9, x10⟩ := X
  intro H locs ls hP hS hl
  have he1 := zW_get (cas := cas) (ad := ad) (M := M) hk1.1
  rw [zC_1 hk1.2] at he1
  have he2 := zW_get (cas := cas) (ad := ad) (M := M) hk2.1
  rw [zC_1 hk2.2] at he2
  have hs1 : n1 ≤ 6097 := by have := lay_small k1 hk1.1; rw [hk1.2] at this; exact this
  have hs2 : n2 ≤ 6097 := by have := lay_small k2 hk2.1; rw [hk2.2] at this; exact this
  have r1 : inR sp := ⟨by omega, by omega⟩
  have r2 : inR dp := ⟨by omega, by omega⟩
  have r3 : inR n := ⟨by omega, by omega⟩
  refine va_copyi x1 x2 (x3.trans hl.1.symm) x4 (x5 _ hlink) (x5 _ hnat) (x5 _ hstat) (x5 _ hini) x6 hP (x8 _) hS k1 k2 0 0 he1 he2 rfl rfl rfl (by rw [zI_lt0 r1]; omega) (by rw [zI_lt0 r2]; omega) (by rw [zI_lt0 r3]; omega) (by rw [zI_clamp r1, zI_clamp r3]; omega) (by rw [zI_clamp r2, zI_clamp r3]; omega) (fun i _ => rfl) hframes hlocals hd (fun H1 locs1 hP1 _ hS1 => kk H1 locs1 ls ?_ hS1 hl)
  rw [zI_clamp r1, zI_clamp r2, zI_clamp r3, z_cpy] at hP1
  have h9 := zW_set (cas := cas) (ad := ad) (M := M) hk2.1 (zC_1 (cas := cas) (ad := ad) (f := cpf (M k1) (M k2) sp.toNat dp.toNat n.toNat) hk2.2).symm
  rw [h9] at hP1
  exact hP1
theorem z_ite {P P' : Prop} {h : Decidable P} {h' : Decidable P'} (a b : Int) (e : P ↔ P') : (if P then zI a else zI b) = zI (if P' then a else b) := by
  by_cases q : P
  · rw [if_pos q, if_pos (e.mp q)]
  · rw [if_neg q, if_neg (fun z => q (e.mpr z))]
theorem R_mmin (X : zX p s m args c cc own nL D cas ad A) {ix : Nat} {a b : Int} (hg : inR a ∧ inR b) (hlink : Cond.methodLink own ix Lib.Math.min.name ∈ wsU) (hframes : 1 ≤ R.frames) (hlocals : (st.map fun v => v.category).sum + 13 ≤ R.locals) (hc : k0 ≤ R.cells ∧ n0 ≤ R.slots) (hd : decode cc pc = .ok (.invokestatic ix, 3)) (hw : Cond.static Lib.Math.min.name ∈ wsU ∧ Cond.initialized "java/lang/Math" ∈ wsU ∧ Cond.code Lib.Math.min.name Lib.Math.min.code 2 (some .int) ∈ wsU) (kk : WW p l e R s m args below meth c D cas ad A nL k0 n0 Q (pc + 3) lv (.int (zI (imin a b)) :: st) M) : WW p l e R s m args below meth c D cas ad A nL k0 n0 Q pc lv (.int (zI b) :: .int (zI a) :: st) M := by
  obtain ⟨x1, x2, x3, x4, x5, x6, x7, x8, x9, x10⟩ := X
  intro H locs ls hP hS hl
  refine va_mmin x1 x2 (x3.trans hl.1.symm) x4 (x5 _ hlink) (x5 _ hw.1) (x5 _ hw.2.1) (x5 _ hw.2.2) hframes hlocals hc.1 hc.2 hd ?_
  rw [z_ite b a (zI_lt ⟨hg.2, hg.1⟩)]
  exact kk H locs ls hP hS hl
theorem R_mmax (X : zX p s m args c cc own nL D cas ad A) {ix : Nat} {a b : Int} (hg : inR a ∧ inR b) (hlink : Cond.methodLink own ix Lib.Math.max.name ∈ wsU) (hframes : 1 ≤ R.frames) (hlocals : (st.map fun v => v.category).sum + 13 ≤ R.locals) (hc : k0 ≤ R.cells ∧ n0 ≤ R.slots) (hd : decode cc pc = .ok (.invokestatic ix, 3)) (hw : Cond.static Lib.Math.max.name ∈ wsU ∧ Cond.initialized "java/lang/Math" ∈ wsU ∧ Cond.code Lib.Math.max.name Lib.Math.max.code 2 (some .int) ∈ wsU) (kk : WW p l e R s m args below meth c D cas ad A nL k0 n0 Q (pc + 3) lv (.int (zI (imax a b)) :: st) M) : WW p l e R s m args below meth c D cas ad A nL k0 n0 Q pc lv (.int (zI b) :: .int (zI a) :: st) M := by
  obtain ⟨x1, x2, x3, x4, x5, x6, x7, x8, x9, x10⟩ := X
  intro H locs ls hP hS hl
  refine va_mmax x1 x2 (x3.trans hl.1.symm) x4 (x5 _ hlink) (x5 _ hw.1) (x5 _ hw.2.1) (x5 _ hw.2.2) hframes hlocals hc.1 hc.2 hd ?_
  rw [z_ite b a (zI_lt hg)]
  exact kk H locs ls hP hS hl
theorem R_mabs (X : zX p s m args c cc own nL D cas ad A) {ix : Nat} {a : Int} (hg : inR a) (hlink : Cond.methodLink own ix Lib.Math.abs.name ∈ wsU) (hframes : 1 ≤ R.frames) (hlocals : (st.map fun v => v.category).sum + 13 ≤ R.locals) (hc : k0 ≤ R.cells ∧ n0 ≤ R.slots) (hd : decode cc pc = .ok (.invokestatic ix, 3)) (hw : Cond.static Lib.Math.abs.name ∈ wsU ∧ Cond.initialized "java/lang/Math" ∈ wsU ∧ Cond.code Lib.Math.abs.name Lib.Math.abs.code 1 (some .int) ∈ wsU) (kk : WW p l e R s m args below meth c D cas ad A nL k0 n0 Q (pc + 3) lv (.int (zI (iabs a)) :: st) M) : WW p l e R s m args below meth c D cas ad A nL k0 n0 Q pc lv (.int (zI a) :: st) M := by
  obtain ⟨x1, x2, x3, x4, x5, x6, x7, x8, x9, x10⟩ := X
  intro H locs ls hP hS hl
  refine va_mabs x1 x2 (x3.trans hl.1.symm) x4 (x5 _ hlink) (x5 _ hw.1) (x5 _ hw.2.1) (x5 _ hw.2.2) hframes hlocals hc.1 hc.2 hd ?_
  rw [zI_0, zI_sub, z_ite a (0 - a) (zI_le ⟨zI_r0, hg⟩)]
  exact kk H locs ls hP hS hl
theorem R_gets (X : zX p s m args c cc own nL D cas ad A) {ix N : Nat} {nm : String} {f : Nat → Int} (hZ : zS1 nm N f A s s.heap) (hlink : Cond.fieldLink own ix "ShardTrails" nm "[I" ∈ wsU) (hd : decode cc pc = .ok (.getstatic ix, 3)) (kk : ∀ t : Nat, va_T .int t N (fun j => .int (zI (f j))) A s s.heap → WW p l e R s m args below meth c D cas ad A nL k0 n0 Q (pc + 3) lv (.ref t :: st) M) : WW p l e R s m args below meth c D cas ad A nL k0 n0 Q pc lv st M := by
  obtain ⟨x1, x2, x3, x4, x5, x6, x7, x8, x9, x10⟩ := X
  obtain ⟨t, h1, h2, -⟩ := hZ
  intro H locs ls hP hS hl
  exact va_gets x1 x2 h1 hS x4 (x5 _ hlink) (fun _ h => h) hd (kk t h2 H locs ls hP hS hl)
theorem R_tald (X : zX p s m args c cc own nL D cas ad A) {t N : Nat} {f : Nat → Int} {i : Int} (hT : va_T .int t N (fun j => .int (zI (f j))) A s s.heap) (hN : N ≤ 2147483647) (hi : 0 ≤ i ∧ i < (N : Int)) (hd : decode cc pc = .ok (.iaload, 1)) (kk : WW p l e R s m args below meth c D cas ad A nL k0 n0 Q (pc + 1) lv (.int (zI (f i.toNat)) :: st) M) : WW p l e R s m args below meth c D cas ad A nL k0 n0 Q pc lv (.int (zI i) :: .ref t :: st) M := by
  obtain ⟨x1, x2, x3, x4, x5, x6, x7, x8, x9, x10⟩ := X
  intro H locs ls hP hS hl
  exact va_ti x1 x2 hT hS (zI_vp hi hN) (by rw [zI_cl hi hN]) hd (kk H locs ls hP hS hl)
theorem R_istore_nX (X : zX p s m args c cc own nL D cas ad A) {k : Fin 4} {i : Nat} {x y : Int} {lv' : List (Nat × Value)} (ex : x = y) (hd : decode cc pc = .ok (.istore_n k, 1)) (hi : (k : Nat) = i) (hn : i < nL) (hl' : (i, Value.int (zI x)) :: lv.filter (fun q => !(q.1 == i) && !(q.1 + 1 == i && q.2.category == 2)) = lv') (kk : WW p l e R s m args below meth c D cas ad A nL k0 n0 Q (pc + 1) lv' st M) : WW p l e R s m args below meth c D cas ad A nL k0 n0 Q pc lv (.int (zI y) :: st) M := by
  subst ex
  exact R_istore_n X hd hi hn hl' kk
theorem R_istoreX (X : zX p s m args c cc own nL D cas ad A) {i : Nat} {x y : Int} {lv' : List (Nat × Value)} (ex : x = y) (hd : decode cc pc = .ok (.istore i, 2)) (hn : i < nL) (hl' : (i, Value.int (zI x)) :: lv.filter (fun q => !(q.1 == i) && !(q.1 + 1 == i && q.2.category == 2)) = lv') (kk : WW p l e R s m args below meth c D cas ad A nL k0 n0 Q (pc + 2) lv' st M) : WW p l e R s m args below meth c D cas ad A nL k0 n0 Q pc lv (.int (zI y) :: st) M := by
  subst ex
  exact R_istore X hd hn hl' kk
theorem R_mem {M1 M2 : Mem} (ex : M1 = M2) (kk : WW p l e R s m args below meth c D cas ad A nL k0 n0 Q pc lv st M1) : WW p l e R s m args below meth c D cas ad A nL k0 n0 Q pc lv st M2 := ex ▸ kk
theorem R_sld (X : zX p s m args c cc own nL D cas ad A) {b L : Nat} {xs : Nat → Int} (hX : va_X b L (fun j => zI (xs j)) s s.heap) (hbl : b < s.heap.size) (hbA : ¬ A b) {i : Int} (hi : 0 ≤ i ∧ i < (L : Int)) (hL : L ≤ 2147483647) (hd : decode cc pc = .ok (.iaload, 1)) (kk : WW p l e R s m args below meth c D cas ad A nL k0 n0 Q (pc + 1) lv (.int (zI (xs i.toNat)) :: st) M) : WW p l e R s m args below meth c D cas ad A nL k0 n0 Q pc lv (.int (zI i) :: .ref b :: st) M := by
  obtain ⟨x1, x2, x3, x4, x5, x6, x7, x8, x9, x10⟩ := X
  intro H locs ls hP hS hl
  refine va_sld x1 x2 hX hbl hbA hS (zI_vp hi hL) hd ?_
  rw [zI_cl hi hL]
  exact kk H locs ls hP hS hl
theorem R_slen (X : zX p s m args c cc own nL D cas ad A) {b L : Nat} {xs : Nat → Int} (hX : va_X b L (fun j => zI (xs j)) s s.heap) (hbl : b < s.heap.size) (hbA : ¬ A b) (hd : decode cc pc = .ok (.arraylength, 1)) (kk : WW p l e R s m args below meth c D cas ad A nL k0 n0 Q (pc + 1) lv (.int (zI (L : Int)) :: st) M) : WW p l e R s m args below meth c D cas ad A nL k0 n0 Q pc lv (.ref b :: st) M := by
  obtain ⟨x1, x2, x3, x4, x5, x6, x7, x8, x9, x10⟩ := X
  intro H locs ls hP hS hl
  refine va_slen x1 x2 hX hbl hbA hS hd ?_
  rw [zI_ofNat]
  exact kk H locs ls hP hS hl
end ZR

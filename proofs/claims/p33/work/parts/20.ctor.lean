/-! objects are made one behind another: cell k at the address h0 + k; a reference field holds 0 (null) or 1 (set) -/
def zCd (cas : Nat → ClassId) (h0 : Nat) (k : Nat) (f : Nat → Int) : va_E := match lay k with
  | (0, ci) => .inr (ci, (List.range (nfl ci)).map (fun j => if off ci j = 0 then .int (zI (f j)) else if f j = 0 then .null else .ref (h0 + (k + off ci j))))
  | (1, n) => .inl (cas 0, n, .inl (fun j => zI (f j)))
  | (2, n) => .inl (cas 1, n, .inl (fun j => zI (f j)))
  | (3, n) => .inl (cas 2, n, .inl (fun j => zI (f j)))
  | (_, n) => .inl (cas 3, n, .inr (.inr (.inr (.inr (fun j => if j < 4 ∧ f j = 0 then none else some (h0 + (k + 1 + 29 * j)))))))
theorem zCd_0 {cas : Nat → ClassId} {h0 k ci : Nat} {f : Nat → Int} (h : lay k = (0, ci)) : zCd cas h0 k f = .inr (ci, (List.range (nfl ci)).map (fun j => if off ci j = 0 then .int (zI (f j)) else if f j = 0 then .null else .ref (h0 + (k + off ci j)))) := by simp [zCd, h]
theorem zCd_1 {cas : Nat → ClassId} {h0 k n : Nat} {f : Nat → Int} (h : lay k = (1, n)) : zCd cas h0 k f = .inl (cas 0, n, .inl (fun j => zI (f j))) := by simp [zCd, h]
theorem zCd_2 {cas : Nat → ClassId} {h0 k n : Nat} {f : Nat → Int} (h : lay k = (2, n)) : zCd cas h0 k f = .inl (cas 1, n, .inl (fun j => zI (f j))) := by simp [zCd, h]
theorem zCd_3 {cas : Nat → ClassId} {h0 k n : Nat} {f : Nat → Int} (h : lay k = (3, n)) : zCd cas h0 k f = .inl (cas 2, n, .inl (fun j => zI (f j))) := by simp [zCd, h]
theorem zCd_4 {cas : Nat → ClassId} {h0 k n : Nat} {f : Nat → Int} (h : lay k = (4, n)) : zCd cas h0 k f = .inl (cas 3, n, .inr (.inr (.inr (.inr (fun j => if j < 4 ∧ f j = 0 then none else some (h0 + (k + 1 + 29 * j))))))) := by simp [zCd, h]
def zL (cas : Nat → ClassId) (h0 n : Nat) (M : Mem) : va_W := (List.range n).map (fun k => (h0 + k, zCd cas h0 k (M k)))
def ml (M : Mem) (k : Nat) (f : Nat → Int) : Mem := fun a => if a = k then f else M a
def flM (M : Mem) (k N : Nat) (v : Int) : Mem := ml M k (fun j => if j < N then v else M k j)
theorem zL_get {cas : Nat → ClassId} {h0 n k : Nat} {M : Mem} (h : k < n) : (zL cas h0 n M)[k]? = some (h0 + k, zCd cas h0 k (M k)) := by
  unfold zL
  rw [List.getElem?_map, List.getElem?_range h]
  rfl
theorem zL_out {cas : Nat → ClassId} {h0 n k : Nat} {M : Mem} (h : ¬ k < n) : (zL cas h0 n M)[k]? = none := List.getElem?_eq_none (by simp [zL]; omega)
theorem zL_set {cas : Nat → ClassId} {h0 n k : Nat} {M : Mem} (h : k < n) {x : va_E} {f : Nat → Int} (hx : x = zCd cas h0 k f) : (zL cas h0 n M).set k (h0 + k, x) = zL cas h0 n (ml M k f) := by
  subst hx
  apply List.ext_getElem?
  intro i
  rw [List.getElem?_set]
  by_cases e : k = i
  · subst e
    rw [if_pos rfl, zL_get h]
    simp [ml, zL, h]
  · rw [if_neg e]
    have e2 : ¬ i = k := fun q => e q.symm
    by_cases hi : i < n
    · rw [zL_get hi, zL_get hi]; simp [ml, e2]
    · rw [zL_out hi, zL_out hi]
theorem zL_push {cas : Nat → ClassId} {h0 n : Nat} {M : Mem} {x : va_E} {f : Nat → Int} (hx : x = zCd cas h0 n f) : zL cas h0 n M ++ [(h0 + n, x)] = zL cas h0 (n + 1) (ml M n f) := by
  subst hx
  apply List.ext_getElem?
  intro i
  by_cases h1 : i < n
  · rw [List.getElem?_append_left (by simp [zL]; omega), zL_get h1, zL_get (by omega)]
    have : ¬ i = n := by omega
    simp [ml, this]
  · rw [List.getElem?_append_right (by simp [zL]; omega)]
    by_cases h2 : i = n
    · subst h2
      rw [zL_get (by omega)]
      simp [zL, ml]
    · rw [zL_out (by omega)]
      exact List.getElem?_eq_none (by simp [zL]; omega)
theorem zL_D (cas : Nat → ClassId) (h0 n : Nat) (M : Mem) : va_D (fun q => h0 ≤ q) (zL cas h0 n M) := by
  have key : ∀ (i : Nat) (p : Nat × va_E), (zL cas h0 n M)[i]? = some p → p.1 = h0 + i := by
    intro i p h
    by_cases hl : i < n
    · rw [zL_get hl] at h; cases h; rfl
    · rw [zL_out hl] at h; cases h
  refine ⟨fun i j p q hp hq e => ?_, fun k q hk => ?_⟩
  · have h1 := key i p hp
    have h2 := key j q hq
    omega
  · have h1 := key k q hk
    show h0 ≤ q.1
    omega
def zY (p : Program) (s : State) (m : MethodId) (args : Array Value) (c : Code) (cc : ByteArray) (own : String) (nL : Nat) (D : va_G) (cas : Nat → ClassId) (h0 ne : Nat) : Prop :=
  p.tables.exec = Jvm.exec ∧ c.code = cc ∧ c.maxLocals = nL ∧ s.vm.findClass own = some m.cls ∧ (∀ w ∈ wsU, w.before args s = true) ∧ va_K D vwCl (zT cas) s ∧ zNW s ∧ zST (fun q => h0 ≤ q) s s.heap ∧ s.heap.size = h0 + ne
def WD (p : Program) (l : Launch) (e : Env) (R : Room) (s : State) (m : MethodId) (args : Array Value) (below : List Frame) (meth : Method) (c : Code) (D : va_G) (cas : Nat → ClassId) (h0 : Nat) (nL : Nat) (Q : State → Prop) (cells slots : Nat) (pc : Nat) (lv : List (Nat × Value)) (st : List Value) (n : Nat) (M : Mem) : Prop :=
  ∀ (H : Heap) (locs : List Loc) (ls : Array Slot), va_P D vwCl (zL cas h0 n M) H → va_S (fun q => h0 ≤ q) s.heap H locs → lv_has ls nL lv → W p l e R s m args below meth c H locs cells slots Q (F0 m pc ls st)
section DR
variable {p : Program} {l : Launch} {e : Env} {R : Room} {s : State} {m : MethodId} {args : Array Value} {below : List Frame} {meth : Method} {c : Code} {D : va_G} {cas : Nat → ClassId} {h0 ne nL k0 n0 : Nat} {Q : State → Prop}
variable {cc : ByteArray} {own : String} {pc n : Nat} {lv : List (Nat × Value)} {st : List Value} {M : Mem}
theorem zsz {H : Heap} {locs : List Loc} {g : JFrame} (hs : s.heap.size = h0 + ne) (hkn : k0 + ne = n) (hP : va_P D vwCl (zL cas h0 n M) H) (hS : va_S (fun q => h0 ≤ q) s.heap H locs) (k : H.size = h0 + n → W p l e R s m args below meth c H locs k0 n0 Q g) : W p l e R s m args below meth c H locs k0 n0 Q g := by
  intro T hT X
  refine k ?_ T hT X
  have h1 := X.heapSize
  rw [hT] at h1
  have h2 := hS.1
  rcases Nat.eq_zero_or_pos n with h | h
  · omega
  · have h3 := (hP (n - 1) _ (zL_get (by omega))).lt
    simp only [] at h3
    omega
theorem D_iconst (X : zY p s m args c cc own nL D cas h0 ne) {v : Int} (hd : decode cc pc = .ok (.iconst v, 1)) (k : WD p l e R s m args below meth c D cas h0 nL Q k0 n0 (pc + 1) lv (.int (zI v) :: st) n M) : WD p l e R s m args below meth c D cas h0 nL Q k0 n0 pc lv st n M :=
  fun H locs ls hP hS hl => lv_iconst X.1 X.2.1 hd rfl (k H locs ls hP hS hl)
theorem D_bipush (X : zY p s m args c cc own nL D cas h0 ne) {v : Int} (hd : decode cc pc = .ok (.bipush v, 2)) (hv : (Int8.ofInt v).toInt32 = zI v) (k : WD p l e R s m args below meth c D cas h0 nL Q k0 n0 (pc + 2) lv (.int (zI v) :: st) n M) : WD p l e R s m args below meth c D cas h0 nL Q k0 n0 pc lv st n M :=
  fun H locs ls hP hS hl => lv_bipush X.1 X.2.1 hd hv (k H locs ls hP hS hl)
theorem D_sipush (X : zY p s m args c cc own nL D cas h0 ne) {v : Int} (hd : decode cc pc = .ok (.sipush v, 3)) (hv : (Int16.ofInt v).toInt32 = zI v) (k : WD p l e R s m args below meth c D cas h0 nL Q k0 n0 (pc + 3) lv (.int (zI v) :: st) n M) : WD p l e R s m args below meth c D cas h0 nL Q k0 n0 pc lv st n M :=
  fun H locs ls hP hS hl => lv_sipush X.1 X.2.1 hd hv (k H locs ls hP hS hl)
theorem D_iload_n (X : zY p s m args c cc own nL D cas h0 ne) {k : Fin 4} {i : Nat} {x : Int32} (j : Nat) (hd : decode cc pc = .ok (.iload_n k, 1)) (hi : (k : Nat) = i) (hj : lv[j]? = some (i, .int x)) (kk : WD p l e R s m args below meth c D cas h0 nL Q k0 n0 (pc + 1) lv (.int x :: st) n M) : WD p l e R s m args below meth c D cas h0 nL Q k0 n0 pc lv st n M :=
  fun H locs ls hP hS hl => lv_iload_n X.1 X.2.1 hd hi (lv_at hl j hj) (kk H locs ls hP hS hl)
theorem D_aload_n (X : zY p s m args c cc own nL D cas h0 ne) {k : Fin 4} {i : Nat} {x : Nat} (j : Nat) (hd : decode cc pc = .ok (.aload_n k, 1)) (hi : (k : Nat) = i) (hj : lv[j]? = some (i, .ref x)) (kk : WD p l e R s m args below meth c D cas h0 nL Q k0 n0 (pc + 1) lv (.ref x :: st) n M) : WD p l e R s m args below meth c D cas h0 nL Q k0 n0 pc lv st n M :=
  fun H locs ls hP hS hl => lv_aload_n X.1 X.2.1 hd hi (lv_at hl j hj) (kk H locs ls hP hS hl)
theorem D_istore_n (X : zY p s m args c cc own nL D cas h0 ne) {k : Fin 4} {i : Nat} {x : Int32} {lv' : List (Nat × Value)} (hd : decode cc pc = .ok (.istore_n k, 1)) (hi : (k : Nat) = i) (hn : i < nL) (hl' : (i, Value.int x) :: lv.filter (fun q => !(q.1 == i) && !(q.1 + 1 == i && q.2.category == 2)) = lv') (kk : WD p l e R s m args below meth c D cas h0 nL Q k0 n0 (pc + 1) lv' st n M) : WD p l e R s m args below meth c D cas h0 nL Q k0 n0 pc lv (.int x :: st) n M :=
  fun H locs _ hP hS hl => lv_istore_n X.1 X.2.1 hd hi hl hn hl' (fun ls' h => kk H locs ls' hP hS h)
theorem D_astore_n (X : zY p s m args c cc own nL D cas h0 ne) {k : Fin 4} {i : Nat} {x : Nat} {lv' : List (Nat × Value)} (hd : decode cc pc = .ok (.astore_n k, 1)) (hi : (k : Nat) = i) (hn : i < nL) (hl' : (i, Value.ref x) :: lv.filter (fun q => !(q.1 == i) && !(q.1 + 1 == i && q.2.category == 2)) = lv') (kk : WD p l e R s m args below meth c D cas h0 nL Q k0 n0 (pc + 1) lv' st n M) : WD p l e R s m args below meth c D cas h0 nL Q k0 n0 pc lv (.ref x :: st) n M :=
  fun H locs _ hP hS hl => lv_astore_n X.1 X.2.1 hd hi hl hn hl' (fun ls' h => kk H locs ls' hP hS h)
theorem D_iinc (X : zY p s m args c cc own nL D cas h0 ne) {i : Nat} {v x y : Int} {lv' : List (Nat × Value)} (j : Nat) (hd : decode cc pc = .ok (.iinc i v, 3)) (hj : lv[j]? = some (i, .int (zI x))) (hy : x + v = y) (hn : i < nL) (hl' : (i, Value.int (zI y)) :: lv.filter (fun q => !(q.1 == i) && !(q.1 + 1 == i && q.2.category == 2)) = lv') (kk : WD p l e R s m args below meth c D cas h0 nL Q k0 n0 (pc + 3) lv' st n M) : WD p l e R s m args below meth c D cas h0 nL Q k0 n0 pc lv st n M := by
  subst hy
  exact fun H locs _ hP hS hl => lv_iinc X.1 X.2.1 hd hl hj (zI_add x v) hn hl' (fun ls' h => kk H locs ls' hP hS h)
theorem D_goto (X : zY p s m args c cc own nL D cas h0 ne) {o : Int} (tgt : Nat) (hd : decode cc pc = .ok (.goto o, 3)) (ht : (pc : Int) + o = (tgt : Int)) (k : WD p l e R s m args below meth c D cas h0 nL Q k0 n0 tgt lv st n M) : WD p l e R s m args below meth c D cas h0 nL Q k0 n0 pc lv st n M :=
  fun H locs ls hP hS hl => lv_goto X.1 X.2.1 hd ht (k H locs ls hP hS hl)
theorem D_icmp_geT (X : zY p s m args c cc own nL D cas h0 ne) {a b o : Int} (tgt : Nat) (hg : inR a ∧ inR b) (hq : b ≤ a) (hd : decode cc pc = .ok (.if_icmp .ge o, 3)) (ht : (pc : Int) + o = (tgt : Int)) (k : WD p l e R s m args below meth c D cas h0 nL Q k0 n0 tgt lv st n M) : WD p l e R s m args below meth c D cas h0 nL Q k0 n0 pc lv (.int (zI b) :: .int (zI a) :: st) n M :=
  fun H locs ls hP hS hl => lv_icmp_ge X.1 X.2.1 hd ht (fun _ => k H locs ls hP hS hl) (fun q => absurd ((zI_le ⟨hg.2, hg.1⟩).mpr hq) q)
theorem D_icmp_geF (X : zY p s m args c cc own nL D cas h0 ne) {a b o : Int} (tgt : Nat) (hg : inR a ∧ inR b) (hq : ¬ b ≤ a) (hd : decode cc pc = .ok (.if_icmp .ge o, 3)) (ht : (pc : Int) + o = (tgt : Int)) (k : WD p l e R s m args below meth c D cas h0 nL Q k0 n0 (pc + 3) lv st n M) : WD p l e R s m args below meth c D cas h0 nL Q k0 n0 pc lv (.int (zI b) :: .int (zI a) :: st) n M :=
  fun H locs ls hP hS hl => lv_icmp_ge X.1 X.2.1 hd ht (fun q => absurd ((zI_le ⟨hg.2, hg.1⟩).mp q) hq) (fun _ => k H locs ls hP hS hl)
theorem D_dup (X : zY p s m args c cc own nL D cas h0 ne) {v : Value} (hd : decode cc pc = .ok (.dup, 1)) (hv : v.category = 1) (k : WD p l e R s m args below meth c D cas h0 nL Q k0 n0 (pc + 1) lv (v :: v :: st) n M) : WD p l e R s m args below meth c D cas h0 nL Q k0 n0 pc lv (v :: st) n M :=
  fun H locs ls hP hS hl => lv_dup X.1 X.2.1 hd hv (k H locs ls hP hS hl)
theorem D_obj (X : zY p s m args c cc own nL D cas h0 ne) {ix a : Nat} (hlink : Cond.methodLink own ix objectInit ∈ wsU) (hinst : Cond.instanceMethod objectInit ∈ wsU) (hcode : Cond.code objectInit ⟨#[0xb1]⟩ 1 none ∈ wsU) (hd : decode cc pc = .ok (.invokespecial ix, 3)) (hframes : 1 ≤ R.frames) (hlocals : (st.map fun v => v.category).sum + 12 ≤ R.locals) (k : WD p l e R s m args below meth c D cas h0 nL Q k0 n0 (pc + 3) lv st n M) : WD p l e R s m args below meth c D cas h0 nL Q k0 n0 pc lv (.ref a :: st) n M := by
  obtain ⟨x1, x2, x3, x4, x5, x6, x7, x8, x9⟩ := X
  intro H locs ls hP hS hl
  exact W.objInit x1 x2 x4 (x5 _ hlink) (x5 _ hinst) (x5 _ hcode) rfl (hl.1.trans x3.symm) rfl hd hframes (by show 2 * 0 + _ + 12 ≤ _; omega) (k H locs ls hP hS hl)
theorem D_new (X : zY p s m args c cc own nL D cas h0 ne) {ix ci N : Nat} {C : String} {T : u_T} (ty : Nat → FieldType) (hl0 : lay n = (0, ci)) (hc : vwCl[ci]? = some (C, T, N)) (hn : nfl ci = N) (hin : ∀ w ∈ u_ws C T N, w ∈ wsU) (hty : ∀ k, k < N → parseFieldDescriptor (T k).2.2.1 = some (ty k)) (hdv : ∀ j, j < N → defaultValue (ty j) = if off ci j = 0 then Value.int 0 else Value.null) (hcl : Cond.classLink own ix C ∈ wsU) (hinst : Cond.instantiable C N ∈ wsU) (hini : Cond.initialized C ∈ wsU) (hkn : k0 + ne = n) (hd : decode cc pc = .ok (.new ix, 3)) (hcs : k0 + 1 ≤ R.cells ∧ n0 + N ≤ R.slots) (k : WD p l e R s m args below meth c D cas h0 nL Q (k0 + 1) (n0 + N) (pc + 3) lv (.ref (h0 + n) :: st) (n + 1) (ml M n (fun _ => 0))) : WD p l e R s m args below meth c D cas h0 nL Q k0 n0 pc lv st n M := by
  obtain ⟨x1, x2, x3, x4, x5, x6, x7, x8, x9⟩ := X
  intro H locs ls hP hS hl
  refine zsz x9 hkn hP hS (fun hz => ?_)
  have hKn := x6.1 ci _ hc
  refine W.newcK x1 x2 x4 (x5 _ hcl) (x5 _ hinst) (x5 _ hini) rfl hd hcs.1 hcs.2 hKn.2.1 hz fun H1 kC hkC e1 z1 o1 => ?_
  have hk : ∀ (k : Nat) (x : Nat × va_E), (zL cas h0 n M)[k]? = some x → H1[x.1]? = H[x.1]? := fun k x hx => o1 x.1 (by rw [← hz]; exact (hP k x hx).lt)
  refine k H1 locs ls ?_ ⟨Nat.le_trans hS.1 (by omega), fun x h1 h2 => (o1 x (by rw [← hz]; exact Nat.lt_of_lt_of_le h1 hS.1)).trans (hS.2.1 x h1 h2), hS.2.2⟩ hl
  rw [← zL_push rfl]
  refine (hP.kept hk).app (fun k x hx => ?_)
  have hz2 : k < 1 := (List.getElem?_eq_some_iff.mp hx).1
  rw [show k = 0 by omega] at hx
  cases hx
  rw [zCd_0 hl0]
  refine ⟨_, hc, (u_born ty x5 hin hKn hkC e1 hty).to (fun j hj => ?_)⟩
  rw [hdv j hj]
  have h0j : (List.range (nfl ci))[j]? = some j := List.getElem?_range (by omega)
  show _ = ((List.range (nfl ci)).map _).getD j Value.null
  rw [List.getD_eq_getElem?_getD, List.getElem?_map, h0j]
  simp [← zI_0]
theorem zT_cA {U : State} {t : Nat} {ty : FieldType} {cA : ClassId} (hK : va_K D vwCl (zT cas) U) (ht : (zT cas)[t]? = some (cas t, ty)) (hnp : ∀ C, ty ≠ .object C) (hA : U.vm.findClass ("[" ++ ty.toString) = some cA) : cA = cas t := by
  have h := (hK.2 t _ ht).2
  have h2 : U.vm.findClass ("[" ++ ty.toString) = some (cas t) := by
    unfold va_RA at h
    cases ty with
    | object C => exact absurd rfl (hnp C)
    | _ => exact h
  exact Option.some.inj (hA.symm.trans h2)
theorem D_newa (X : zY p s m args c cc own nL D cas h0 ne) {N t kd : Nat} {atype : ArrayType} {v : Int} (hl0 : lay n = (kd, N)) (hk1 : 1 ≤ kd ∧ kd ≤ 3) (ht : kd = t + 1) (hty : (zT cas)[t]? = some (cas t, newarray.typeOf atype)) (hnp : ∀ C, newarray.typeOf atype ≠ .object C) (hdv : defaultValue (newarray.typeOf atype) = .int 0) (harr : Cond.arrayClass (newarray.typeOf atype) ∈ wsU) (hv : 0 ≤ v ∧ v.toNat = N) (hN : N ≤ 100000) (hcb : componentBytes (newarray.typeOf atype) ≤ 8) (hkn : k0 + ne = n) (hd : decode cc pc = .ok (.newarray atype, 2)) (hcs : k0 + 1 ≤ R.cells ∧ n0 + N ≤ R.slots) (k : WD p l e R s m args below meth c D cas h0 nL Q (k0 + 1) (n0 + N) (pc + 2) lv (.ref (h0 + n) :: st) (n + 1) (ml M n (fun _ => 0))) : WD p l e R s m args below meth c D cas h0 nL Q k0 n0 pc lv (.int (zI v) :: st) n M := by
  obtain ⟨x1, x2, x3, x4, x5, x6, x7, x8, x9⟩ := X
  intro H locs ls hP hS hl
  refine zsz x9 hkn hP hS (fun hz => ?_)
  have hr : inR v := ⟨by omega, by omega⟩
  refine va_newaK x1 x2 (x5 _ harr) rfl hd (n := zI v) (N := N) rfl (by rw [zI_lt0 hr]; omega) (by rw [zI_clamp hr]; exact hv.2) (Nat.le_trans (Nat.mul_le_mul hN hcb) (by omega)) hcs.1 hcs.2 hz fun H1 cA e1 z1 o1 _ hnm => ?_
  have hcA : cA = cas t := zT_cA x6 hty hnp hnm
  have hk : ∀ (k : Nat) (x : Nat × va_E), (zL cas h0 n M)[k]? = some x → H1[x.1]? = H[x.1]? := fun k x hx => o1 x.1 (by rw [← hz]; exact (hP k x hx).lt)
  refine k H1 locs ls ?_ ⟨Nat.le_trans hS.1 (by omega), fun x h1 h2 => (o1 x (by rw [← hz]; exact Nat.lt_of_lt_of_le h1 hS.1)).trans (hS.2.1 x h1 h2), hS.2.2⟩ hl
  rw [← zL_push rfl]
  refine (hP.kept hk).app (fun k x hx => ?_)
  have hz2 : k < 1 := (List.getElem?_eq_some_iff.mp hx).1
  rw [show k = 0 by omega] at hx
  cases hx
  have hcell : zCd cas h0 n (fun _ => 0) = .inl (cas t, N, .inl (fun _ => 0)) := by
    rcases (show kd = 1 ∨ kd = 2 ∨ kd = 3 by omega) with h | h | h <;> subst h <;> (obtain rfl : t = _ := by first | exact (show t = 0 by omega) | exact (show t = 1 by omega) | exact (show t = 2 by omega))
    · rw [zCd_1 hl0]; simp [← zI_0]
    · rw [zCd_2 hl0]; simp [← zI_0]
    · rw [zCd_3 hl0]; simp [← zI_0]
  rw [hcell]
  show H1[h0 + n]? = some (vp_cell _ _)
  rw [e1, hcA, hdv]
  rfl
theorem zFd_get {cas : Nat → ClassId} {ci N j : Nat} {k : Nat} {f : Nat → Int} (hn : nfl ci = N) (hj : j < N) : ((List.range (nfl ci)).map (fun j => if off ci j = 0 then Value.int (zI (f j)) else if f j = 0 then .null else .ref (h0 + (k + off ci j))))[j]? = some (if off ci j = 0 then Value.int (zI (f j)) else if f j = 0 then .null else .ref (h0 + (k + off ci j))) := by
  rw [List.getElem?_map, List.getElem?_range (by omega)]
  rfl
theorem zFd_set {ci N j : Nat} {k : Nat} {f : Nat → Int} {v : Int} (hn : nfl ci = N) (hj : j < N) {w : Value} (hw : w = (if off ci j = 0 then Value.int (zI v) else if v = 0 then .null else .ref (h0 + (k + off ci j)))) : ((List.range (nfl ci)).map (fun j => if off ci j = 0 then Value.int (zI (f j)) else if f j = 0 then .null else .ref (h0 + (k + off ci j)))).set j w = (List.range (nfl ci)).map (fun i => if off ci i = 0 then Value.int (zI (up f j v i)) else if up f j v i = 0 then .null else .ref (h0 + (k + off ci i))) := by
  subst hw
  apply List.ext_getElem?
  intro i
  rw [List.getElem?_set]
  by_cases e : j = i
  · subst e
    rw [if_pos rfl, List.getElem?_map, List.getElem?_range (by omega)]
    simp [up]
    omega
  · rw [if_neg e, List.getElem?_map, List.getElem?_map]
    by_cases hi : i < nfl ci
    · rw [List.getElem?_range hi]
      have e2 : ¬ i = j := fun q => e q.symm
      simp [up, e2]
    · rw [List.getElem?_eq_none (by simp; omega)]
      rfl
theorem D_getR (X : zY p s m args c cc own nL D cas h0 ne) {k ci j ix N : Nat} {C ref : String} {T : u_T} (o kt : Nat) (hk : k < n ∧ lay k = (0, ci)) (hset : M k j ≠ 0) (hc : vwCl[ci]? = some (C, T, N)) (hin : ∀ w ∈ u_ws C T N, w ∈ wsU) (hj : j < N) (hn : nfl ci = N) (hof : off ci j = o) (ho : 0 < o) (hkt : k + o = kt) (href : (T j).1 = ref) (hlink : Cond.fieldLink own ix ref (T j).2.1 (T j).2.2.1 ∈ wsU) (hd : decode cc pc = .ok (.getfield ix, 3)) (kk : WD p l e R s m args below meth c D cas h0 nL Q k0 n0 (pc + 3) lv (.ref (h0 + kt) :: st) n M) : WD p l e R s m args below meth c D cas h0 nL Q k0 n0 pc lv (.ref (h0 + k) :: st) n M := by
  obtain ⟨x1, x2, x3, x4, x5, x6, x7, x8, x9⟩ := X
  subst hkt
  intro H locs ls hP hS hl
  have he := zL_get (cas := cas) (h0 := h0) (M := M) hk.1
  rw [zCd_0 hk.2] at he
  have hv := zFd_get (cas := cas) (h0 := h0) (k := k) (f := M k) hn hj
  have h1 : ¬ off ci j = 0 := by omega
  rw [if_neg h1, if_neg hset, hof] at hv
  exact va_get x1 x2 x5 hin x4 x6 hP k he hc j hj (x5 _ hlink) (fun x h => by rw [← href]; exact h) hv hd (kk H locs ls hP hS hl)
theorem D_put (X : zY p s m args c cc own nL D cas h0 ne) {k ci j ix N : Nat} {C ref : String} {T : u_T} {v : Int} {ty0 : Nat → FieldType} {ty : FieldType} (hk : k < n ∧ lay k = (0, ci)) (hc : vwCl[ci]? = some (C, T, N)) (hin : ∀ w ∈ u_ws C T N, w ∈ wsU) (hty : ∀ k, k < N → parseFieldDescriptor (T k).2.2.1 = some (ty0 k)) (hnm : ∀ a, a < N → ∀ b, b < N → a ≠ b → (T a).2.1 ≠ (T b).2.1) (hj : j < N) (hn : nfl ci = N) (hof : off ci j = 0) (href : (T j).1 = ref) (hlink : Cond.fieldLink own ix ref (T j).2.1 (T j).2.2.1 ∈ wsU) (hfin : (T j).2.2.2 = false) (hde : parseFieldDescriptor (T j).2.2.1 = some ty) (hna : narrow ty (.int (zI v)) = .int (zI v)) (hfit : fits ty (.int (zI v)) = true) (hd : decode cc pc = .ok (.putfield ix, 3)) (kk : WD p l e R s m args below meth c D cas h0 nL Q k0 n0 (pc + 3) lv st n (wr M k j v)) : WD p l e R s m args below meth c D cas h0 nL Q k0 n0 pc lv (.int (zI v) :: .ref (h0 + k) :: st) n M := by
  obtain ⟨x1, x2, x3, x4, x5, x6, x7, x8, x9⟩ := X
  intro H locs ls hP hS hl
  have he := zL_get (cas := cas) (h0 := h0) (M := M) hk.1
  rw [zCd_0 hk.2] at he
  refine va_put x1 x2 x5 hin ty0 hty hnm x4 x6 hP (zL_D _ _ _ _) hS k he hc j hj (x5 _ hlink) (fun x h => by rw [← href]; exact h) hfin hde hna hfit (by simp; omega) hd (fun H1 locs1 hP1 _ hS1 => kk H1 locs1 ls ?_ hS1 hl)
  rw [zFd_set (k := k) (f := M k) (v := v) hn hj (by rw [if_pos hof])] at hP1
  rw [zL_set hk.1 (zCd_0 (cas := cas) (h0 := h0) (f := up (M k) j v) hk.2).symm] at hP1
  exact hP1
theorem D_putR (X : zY p s m args c cc own nL D cas h0 ne) {k kt ci j ix N : Nat} {C ref : String} {T : u_T} {ty0 : Nat → FieldType} {ty : FieldType} (o : Nat) (hk : k < n ∧ lay k = (0, ci)) (hc : vwCl[ci]? = some (C, T, N)) (hin : ∀ w ∈ u_ws C T N, w ∈ wsU) (hty : ∀ k, k < N → parseFieldDescriptor (T k).2.2.1 = some (ty0 k)) (hnm : ∀ a, a < N → ∀ b, b < N → a ≠ b → (T a).2.1 ≠ (T b).2.1) (hj : j < N) (hn : nfl ci = N) (hof : off ci j = o) (ho : 0 < o) (hkt : k + o = kt) (href : (T j).1 = ref) (hlink : Cond.fieldLink own ix ref (T j).2.1 (T j).2.2.1 ∈ wsU) (hfin : (T j).2.2.2 = true) (hin2 : meth.name = "<init>") (hdecl : (T j).1 = own) (hde : parseFieldDescriptor (T j).2.2.1 = some ty) (hna : ∀ a : Addr, narrow ty (.ref a) = .ref a) (hfit : ∀ a : Addr, fits ty (.ref a) = true) (hd : decode cc pc = .ok (.putfield ix, 3)) (kk : WD p l e R s m args below meth c D cas h0 nL Q k0 n0 (pc + 3) lv st n (wr M k j 1)) : WD p l e R s m args below meth c D cas h0 nL Q k0 n0 pc lv (.ref (h0 + kt) :: .ref (h0 + k) :: st) n M := by
  obtain ⟨x1, x2, x3, x4, x5, x6, x7, x8, x9⟩ := X
  subst hkt
  intro H locs ls hP hS hl
  have he := zL_get (cas := cas) (h0 := h0) (M := M) hk.1
  rw [zCd_0 hk.2] at he
  refine va_putF x1 x2 x5 hin ty0 hty hnm x4 x6 hP (zL_D _ _ _ _) hS k he hc j hj (x5 _ hlink) (fun x h => by rw [← href]; exact h) hfin hin2 hdecl hde (hna _) (hfit _) (by simp; omega) hd (fun H1 locs1 hP1 _ hS1 => kk H1 locs1 ls ?_ hS1 hl)
  have h1 : ¬ off ci j = 0 := by omega
  rw [zFd_set (k := k) (f := M k) (v := 1) hn hj (by rw [if_neg h1, if_neg (by decide), hof])] at hP1
  rw [zL_set hk.1 (zCd_0 (cas := cas) (h0 := h0) (f := up (M k) j 1) hk.2).symm] at hP1
  exact hP1
theorem D_iast (X : zY p s m args c cc own nL D cas h0 ne) {k N : Nat} {i v : Int} (j : Nat) (hk : k < n ∧ lay k = (1, N)) (hi : 0 ≤ i ∧ i < (N : Int)) (hN : N ≤ 2147483647) (hj : i.toNat = j) (hd : decode cc pc = .ok (.iastore, 1)) (kk : WD p l e R s m args below meth c D cas h0 nL Q k0 n0 (pc + 1) lv st n (wr M k j v)) : WD p l e R s m args below meth c D cas h0 nL Q k0 n0 pc lv (.int (zI v) :: .int (zI i) :: .ref (h0 + k) :: st) n M := by
  obtain ⟨x1, x2, x3, x4, x5, x6, x7, x8, x9⟩ := X
  subst hj
  intro H locs ls hP hS hl
  have he := zL_get (cas := cas) (h0 := h0) (M := M) hk.1
  rw [zCd_1 hk.2] at he
  refine va_iast x1 x2 x6 hP (zL_D _ _ _ _) hS k 0 he rfl (zI_vp hi hN) hd (fun H1 locs1 hP1 _ hS1 => kk H1 locs1 ls ?_ hS1 hl)
  rw [zI_cl hi hN, z_upd] at hP1
  rw [zL_set hk.1 (zCd_1 (cas := cas) (h0 := h0) (f := up (M k) i.toNat v) hk.2).symm] at hP1
  exact hP1
theorem arrV_ext {cA : ClassId} {N : Nat} {f g : Nat → Value} (h : ∀ j, j < N → f j = g j) : arrV cA N f = arrV cA N g := by
  unfold arrV
  congr 1
  apply Array.ext
  · simp
  · intro i h1 h2
    simp only [Array.getElem_ofFn]
    exact h i (by simpa using h1)
theorem D_anew (X : zY p s m args c cc own nL D cas h0 ne) {ix N : Nat} {v : Int} (hl0 : lay n = (4, N)) (hv : 0 ≤ v ∧ v.toNat = N) (hN : N = 4) (hcl : Cond.classLink own ix "ShardTrails$State" ∈ wsU) (hkn : k0 + ne = n) (hd : decode cc pc = .ok (.anewarray ix, 3)) (hcs : k0 + 1 ≤ R.cells ∧ n0 + N ≤ R.slots) (k : WD p l e R s m args below meth c D cas h0 nL Q (k0 + 1) (n0 + N) (pc + 3) lv (.ref (h0 + n) :: st) (n + 1) (ml M n (fun _ => 0))) : WD p l e R s m args below meth c D cas h0 nL Q k0 n0 pc lv (.int (zI v) :: st) n M := by
  obtain ⟨x1, x2, x3, x4, x5, x6, x7, x8, x9⟩ := X
  intro H locs ls hP hS hl
  refine zsz x9 hkn hP hS (fun hz => ?_)
  have hr : inR v := ⟨by omega, by omega⟩
  refine W.anew (n := zI v) x1 x2 x4 (x5 _ hcl) (va_AO.use x7.2.2.2) rfl hd rfl (by rw [zI_lt0 hr]; omega) (by rw [zI_clamp hr]; omega) hcs.1 (by rw [zI_clamp hr, hv.2]; exact hcs.2) fun cA kA comp f1 f2 f3 f4 => ?_
  rw [zI_clamp hr, hv.2]
  have hcA : cA = cas 3 := by
    obtain ⟨-, kA', comp', g1, g2, g3, g4⟩ := x6.2 3 (cas 3, .object "ShardTrails$State") rfl
    first | exact Option.some.inj (f1.symm.trans g4) | exact Option.some.inj (f4.symm.trans g4) | exact Option.some.inj (f2.symm.trans g4)
  generalize hH1 : H.push ({ cls := cA, slots := Array.replicate N .null, vm := .none } : Cell) = H1
  have z1 : H1.size = H.size + 1 := by rw [← hH1, Array.size_push]
  have e1 : H1[H.size]? = some (arrV cA N (fun _ => .null)) := by rw [← hH1, Array.getElem?_push_size, ← arrV_new]
  have o1 : ∀ q : Nat, q < H.size → H1[q]? = H[q]? := fun q hq => by rw [← hH1, Array.getElem?_push, if_neg (Nat.ne_of_lt hq)]
  have hk : ∀ (k : Nat) (x : Nat × va_E), (zL cas h0 n M)[k]? = some x → H1[x.1]? = H[x.1]? := fun k x hx => o1 x.1 ((hP k x hx).lt)
  have hg : W p l e R s m args below meth c H1 locs (k0 + 1) (n0 + N) Q (F0 m (pc + 3) ls (.ref (h0 + n) :: st)) := by
    refine k H1 locs ls ?_ ⟨Nat.le_trans hS.1 (by omega), fun x h1 h2 => (o1 x (Nat.lt_of_lt_of_le h1 hS.1)).trans (hS.2.1 x h1 h2), hS.2.2⟩ hl
    rw [← zL_push rfl]
    refine (hP.kept hk).app (fun k x hx => ?_)
    have hz2 : k < 1 := (List.getElem?_eq_some_iff.mp hx).1
    rw [show k = 0 by omega] at hx
    cases hx
    rw [zCd_4 hl0]
    show H1[h0 + n]? = some (vp_cell _ _)
    rw [← hz, e1, hcA, vp_cell_q]
    refine congrArg some (arrV_ext (fun j hj => ?_))
    subst hN
    rw [if_pos ⟨hj, rfl⟩]
    rfl
  rw [← hz] at hg
  exact hg
theorem D_aast (X : zY p s m args c cc own nL D cas h0 ne) {k N a : Nat} {i : Int} (j : Nat) (hk : k < n ∧ lay k = (4, N)) (hi : 0 ≤ i ∧ i < (N : Int)) (hN : N = 4) (hj : i.toNat = j) (ha : k + 1 + 29 * j = a) (hka : a < n ∧ lay a = (0, 7)) (hd : decode cc pc = .ok (.aastore, 1)) (kk : WD p l e R s m args below meth c D cas h0 nL Q k0 n0 (pc + 1) lv st n (wr M k j 1)) : WD p l e R s m args below meth c D cas h0 nL Q k0 n0 pc lv (.ref (h0 + a) :: .int (zI i) :: .ref (h0 + k) :: st) n M := by
  obtain ⟨x1, x2, x3, x4, x5, x6, x7, x8, x9⟩ := X
  subst hj
  intro H locs ls hP hS hl
  have he := zL_get (cas := cas) (h0 := h0) (M := M) hk.1
  rw [zCd_4 hk.2] at he
  have hv := zL_get (cas := cas) (h0 := h0) (M := M) hka.1
  rw [zCd_0 hka.2] at hv
  have hs : N ≤ 2147483647 := by omega
  refine va_astq (r := (RX7, TX7, 11)) x1 x2 x6 hP (zL_D _ _ _ _) hS k 3 a 7 he rfl hv rfl (zI_vp hi hs) hd (fun H1 locs1 hP1 _ hS1 => kk H1 locs1 ls ?_ hS1 hl)
  rw [zI_cl hi hs] at hP1
  have h9 : (fun j => if j < 4 ∧ up (M k) i.toNat 1 j = 0 then none else some (h0 + (k + 1 + 29 * j))) = va_up (fun j => if j < 4 ∧ M k j = 0 then none else some (h0 + (k + 1 + 29 * j))) i.toNat (some (h0 + a)) := by
    funext q
    by_cases e : q = i.toNat
    · subst e; simp [va_up, up, ← ha]
    · simp [va_up, up, e]
  rw [← h9] at hP1
  rw [zL_set hk.1 (zCd_4 (cas := cas) (h0 := h0) (f := up (M k) i.toNat 1) hk.2).symm] at hP1
  exact hP1
theorem D_gets (X : zY p s m args c cc own nL D cas h0 ne) {ix N : Nat} {nm : String} {f : Nat → Int} (hZ : zS1 nm N f (fun q => h0 ≤ q) s s.heap) (hlink : (own, ix, nm) ∈ zNestF) (hd : decode cc pc = .ok (.getstatic ix, 3)) (kk : ∀ t : Nat, va_T .int t N (fun j => .int (zI (f j))) (fun q => h0 ≤ q) s s.heap → zSx t N s s.heap → WD p l e R s m args below meth c D cas h0 nL Q k0 n0 (pc + 3) lv (.ref t :: st) n M) : WD p l e R s m args below meth c D cas h0 nL Q k0 n0 pc lv st n M := by
  obtain ⟨x1, x2, x3, x4, x5, x6, x7, x8, x9⟩ := X
  obtain ⟨t, h1, h2, h3⟩ := hZ
  intro H locs ls hP hS hl
  exact va_getsN x1 x2 h1 hS x4 (va_Nw.use rfl (x7.2.1 _ hlink)) (fun _ h => h) hd (kk t h2 h3 H locs ls hP hS hl)
theorem D_clone (X : zY p s m args c cc own nL D cas h0 ne) {ix N t : Nat} {f : Nat → Int} (hT : va_T .int t N (fun j => .int (zI (f j))) (fun q => h0 ≤ q) s s.heap) (hx : zSx t N s s.heap) (hl0 : lay n = (1, N)) (hlink : Cond.methodLink own ix ⟨"[I", "clone", "()Ljava/lang/Object;"⟩ ∈ wsU) (hsame : Cond.sameMethod "[I" "java/lang/Object" "clone" "()Ljava/lang/Object;" ∈ wsU) (hnat : Cond.native ⟨"java/lang/Object", "clone", "()Ljava/lang/Object;"⟩ ∈ wsU) (hinst : Cond.instanceMethod ⟨"java/lang/Object", "clone", "()Ljava/lang/Object;"⟩ ∈ wsU) (hsel : Cond.selects "[I" ⟨"[I", "clone", "()Ljava/lang/Object;"⟩ ⟨"java/lang/Object", "clone", "()Ljava/lang/Object;"⟩ ∈ wsU) (hframes : 1 ≤ R.frames) (hlocals : (st.map fun v => v.category).sum + 14 ≤ R.locals) (hkn : k0 + ne = n) (hd : decode cc pc = .ok (.invokevirtual ix, 3)) (hcs : k0 + 1 ≤ R.cells ∧ n0 + N ≤ R.slots) (kk : WD p l e R s m args below meth c D cas h0 nL Q (k0 + 1) (n0 + N) (pc + 3) lv (.ref (h0 + n) :: st) (n + 1) (ml M n f)) : WD p l e R s m args below meth c D cas h0 nL Q k0 n0 pc lv (.ref t :: st) n M := by
  obtain ⟨x1, x2, x3, x4, x5, x6, x7, x8, x9⟩ := X
  intro H locs ls hP hS hl
  refine zsz x9 hkn hP hS (fun hz => ?_)
  obtain ⟨cell, c1, c2, c3, c4⟩ := hx
  obtain ⟨cell', d1, d2, d3, d4, d5, d6, d7⟩ := hT
  cases c1.symm.trans d1
  obtain ⟨hAr, hRA⟩ := x6.2 0 _ rfl
  have hc0 : cell.cls = cas 0 := by
    have h2 : s.vm.findClass ("[" ++ (FieldType.int).toString) = some (cas 0) := hRA
    exact Option.some.inj (c3.symm.trans h2)
  have hcellE : ({ cls := cell.cls, slots := cell.slots } : Cell) = vp_cell (cas 0) (N, .inl (fun j => zI (f j))) := by
    rw [vp_cell_i, hc0]
    unfold arrV
    congr 1
    apply Array.ext
    · simp [c2]
    · intro i h1 h2
      have h3 := d6 i (by omega)
      rw [Array.getElem?_eq_getElem h1] at h3
      simp only [Array.getElem_ofFn]
      exact Option.some.inj h3
  obtain ⟨c0, t0', f1, f2, f3⟩ := Cond.castable_spec (va_Nw.use (A := args) rfl x7.2.2.1)
  cases c3.symm.trans f1
  intro T hT2 XS
  have hcellT : T.heap[t]? = some cell := by rw [hT2, hS.2.1 t (Array.getElem?_eq_some_iff.mp c1).1 d7]; exact c1
  obtain ⟨-, kA, hkA, comp, hkind⟩ := State.isArrayOf_alike XS.warmed.alike (hAr 0 (fun _ => .null))
  obtain ⟨-, kS, hkS, compS, hkindS⟩ := hAr 0 (fun _ => .null)
  obtain ⟨vm', X', stp⟩ := XS.cloneArray x1 x4 (x5 _ hlink) (x5 _ hsame) (x5 _ hnat) (x5 _ hinst) (x5 _ hsel) (a := t) (cell := cell) hcellT c4 d3 c3 f2 f3
    (fun i v hv => by
      rw [hc0]
      have hk' : T.vm.classes[cas 0]? = some kA := hkA
      have hlt : i < N := by rw [← c2]; exact (Array.getElem?_eq_some_iff.mp hv).1
      have h3 := (d6 i hlt).symm.trans hv
      cases h3
      simp [State.fitsSlot, State.slotType?, hk', hkind, fits])
    (g := F0 m pc ls (.ref t :: st)) rfl (by rw [x3]; exact hl.1) rfl (by rw [x2]; exact hd) hframes (by show 2 * 0 + _ + 14 ≤ _; omega) hcs.1 (by rw [c2]; exact hcs.2) (hloader := by rw [hc0]; exact Vm.clonesLoader_of_array hkS hkindS)
  rw [hcellE, c2] at X'
  generalize hH1 : H.push (vp_cell (cas 0) (N, .inl (fun j => zI (f j)))) = H1
  have z1 : H1.size = H.size + 1 := by rw [← hH1, Array.size_push]
  have e1 : H1[H.size]? = some (vp_cell (cas 0) (N, .inl (fun j => zI (f j)))) := by rw [← hH1, Array.getElem?_push_size]
  have o1 : ∀ q : Nat, q < H.size → H1[q]? = H[q]? := fun q hq => by rw [← hH1, Array.getElem?_push, if_neg (Nat.ne_of_lt hq)]
  have hk : ∀ (k : Nat) (y : Nat × va_E), (zL cas h0 n M)[k]? = some y → H1[y.1]? = H[y.1]? := fun k y hy => o1 y.1 ((hP k y hy).lt)
  have hP1 : va_P D vwCl (zL cas h0 (n + 1) (ml M n f)) H1 := by
    rw [← zL_push rfl]
    refine (hP.kept hk).app (fun k x hx => ?_)
    have hz2 : k < 1 := (List.getElem?_eq_some_iff.mp hx).1
    rw [show k = 0 by omega] at hx
    cases hx
    rw [zCd_1 hl0]
    show H1[h0 + n]? = some (vp_cell _ _)
    rw [← hz]
    exact e1
  obtain ⟨t2, b1, b2⟩ := kk H1 locs ls hP1 ⟨Nat.le_trans hS.1 (by omega), fun x h1 h2 => (o1 x (Nat.lt_of_lt_of_le h1 hS.1)).trans (hS.2.1 x h1 h2), hS.2.2⟩ hl ((T.setVm vm').pushCell (vp_cell (cas 0) (N, .inl (fun j => zI (f j))))) (by rw [← hH1, ← hT2]; rfl) X'
  refine ⟨t2, stp t2 ?_, b2⟩
  rw [hcellE, hT2, hz]
  exact b1
theorem D_castI (X : zY p s m args c cc own nL D cas h0 ne) {ix k N : Nat} (hk : k < n ∧ lay k = (1, N)) (hlink : Cond.classLink own ix "[I" ∈ wsU) (hd : decode cc pc = .ok (.checkcast ix, 3)) (kk : WD p l e R s m args below meth c D cas h0 nL Q k0 n0 (pc + 3) lv (.ref (h0 + k) :: st) n M) : WD p l e R s m args below meth c D cas h0 nL Q k0 n0 pc lv (.ref (h0 + k) :: st) n M := by
  obtain ⟨x1, x2, x3, x4, x5, x6, x7, x8, x9⟩ := X
  intro H locs ls hP hS hl
  have he := zL_get (cas := cas) (h0 := h0) (M := M) hk.1
  rw [zCd_1 hk.2] at he
  have hRA : s.vm.findClass ("[" ++ (FieldType.int).toString) = some (cas 0) := (x6.2 0 _ rfl).2
  exact va_castA x1 x2 x4 (x5 _ hlink) hP k he hRA hd (kk H locs ls hP hS hl)
theorem D_alen (X : zY p s m args c cc own nL D cas h0 ne) {k N : Nat} (hk : k < n ∧ lay k = (1, N)) (hd : decode cc pc = .ok (.arraylength, 1)) (kk : WD p l e R s m args below meth c D cas h0 nL Q k0 n0 (pc + 1) lv (.int (zI (N : Int)) :: st) n M) : WD p l e R s m args below meth c D cas h0 nL Q k0 n0 pc lv (.ref (h0 + k) :: st) n M := by
  obtain ⟨x1, x2, x3, x4, x5, x6, x7, x8, x9⟩ := X
  intro H locs ls hP hS hl
  have he := zL_get (cas := cas) (h0 := h0) (M := M) hk.1
  rw [zCd_1 hk.2] at he
  exact va_alen x1 x2 x6 hP k 0 he rfl (zI_ofNat N) hd (kk H locs ls hP hS hl)
theorem D_icmp_ge (X : zY p s m args c cc own nL D cas h0 ne) {a b o : Int} (tgt : Nat) (hg : inR a ∧ inR b) (hd : decode cc pc = .ok (.if_icmp .ge o, 3)) (ht : (pc : Int) + o = (tgt : Int)) (kt : b ≤ a → WD p l e R s m args below meth c D cas h0 nL Q k0 n0 tgt lv st n M) (kf : ¬ b ≤ a → WD p l e R s m args below meth c D cas h0 nL Q k0 n0 (pc + 3) lv st n M) : WD p l e R s m args below meth c D cas h0 nL Q k0 n0 pc lv (.int (zI b) :: .int (zI a) :: st) n M :=
  fun H locs ls hP hS hl => lv_icmp_ge X.1 X.2.1 hd ht (fun q => kt ((zI_le ⟨hg.2, hg.1⟩).mp q) H locs ls hP hS hl) (fun q => kf (fun z => q ((zI_le ⟨hg.2, hg.1⟩).mpr z)) H locs ls hP hS hl)
theorem D_sub {lv' : List (Nat × Value)} (ks : List Nat) (h : lv_pick lv ks = lv') (kk : WD p l e R s m args below meth c D cas h0 nL Q k0 n0 pc lv' st n M) : WD p l e R s m args below meth c D cas h0 nL Q k0 n0 pc lv st n M :=
  fun H locs ls hP hS hl => kk H locs ls hP hS (lv_sub hl ks h)
end DR
/-! contracts of what makes objects -/
def zGe (D : va_G) (cas : Nat → ClassId) (h0 n : Nat) (M : Mem) (U : State) : Prop :=
  va_P D vwCl (zL cas h0 n M) U.heap ∧ va_K D vwCl (zT cas) U ∧ zNW U ∧ zST (fun q => h0 ≤ q) U U.heap
def zGd (D : va_G) (cas : Nat → ClassId) (h0 n : Nat) (M : Mem) (U : State) : Prop := zGe D cas h0 n M U ∧ U.heap.size = h0 + n
abbrev zro (fr lo mc ms : Nat) : Room := { frames := fr, cells := mc, slots := ms, locals := lo }
abbrev zQd (D : va_G) (cas : Nat → ClassId) (h0 n' : Nat) (M' : Mem) : Array Value → State → Outcome → State → Prop := va_Qv (fun (_ : Unit) => True) (fun _ t => zGe D cas h0 n' M' t) (fun q => h0 ≤ q)
def zKd (l : Launch) (D : va_G) (cas : Nat → ClassId) (h0 : Nat) (y : MethodName) (b : ByteArray) (maxL : Nat) (fr lo mc ms : Nat) (av : List Value) (n : Nat) (M : Mem) (n' : Nat) (M' : Mem) : Prop :=
  Met l y (zws y b maxL none) (zro fr lo mc ms) (va_Pc av (fun U => zGd D cas h0 n M U)) (zQd D cas h0 n' M') mc ms (fun q => h0 ≤ q)
theorem zblindD {D : va_G} {cas : Nat → ClassId} {h0 n : Nat} {M : Mem} {av : List Value} : FrameBlind (va_Pc av (fun U => zGd D cas h0 n M U)) := by
  intro a U g mk ⟨h0, ⟨h1, h2, h3, h4⟩, h5⟩
  exact ⟨h0, ⟨h1, va_K.moved (u := U) (U := U.calling g mk a) (Vm.Alike.refl U.vm) h2, ⟨fun q hq => va_Nw.same rfl rfl (h3.1 q hq), fun q hq => va_Nw.same rfl rfl (h3.2.1 q hq), va_Nw.same rfl rfl h3.2.2.1, va_AO.moved (u := U) (U := U.calling g mk a) (Vm.Alike.refl U.vm) h3.2.2.2⟩, h4.moved (u := U) (U := U.calling g mk a) (Vm.Alike.refl U.vm)⟩, h5⟩
theorem zbodyD {l : Launch} {D : va_G} {cas : Nat → ClassId} {h0 n : Nat} {y : MethodName} {b : ByteArray} {maxL : Nat} {fr lo mc ms : Nat} {av : List Value} {M : Mem} {Qc : Array Value → State → Outcome → State → Prop} (hy : plainName y.cls = true) (hn : (lg_sl av).length ≤ maxL)
    (body : ∀ (p : Program) (e : Env) (s : State) (m : MethodId) (args : Array Value) (below : List Frame) (meth : Method) (c : Code), zY p s m args c b y.cls maxL D cas h0 n → meth.sig.returnType = none → meth.locks = false → meth.name = y.name → WD p l e (zro fr lo mc ms) s m args below meth c D cas h0 maxL (MQ below Qc args s mc ms (fun q => h0 ≤ q)) 0 0 0 (lv_args 0 av) [] n M) :
    Met l y (zws y b maxL none) (zro fr lo mc ms) (va_Pc av (fun U => zGd D cas h0 n M U)) Qc mc ms (fun q => h0 ≤ q) := by
  refine Met.ofW (cc := b) (maxL := maxL) (ret := none) hy rfl ?_
  intro p e s m args below meth c s₁ B hml hv
  obtain ⟨rfl, ⟨hP, hK, hN, hST⟩, hsz⟩ := hv
  have hts := atoms_spec (ws := zws y b maxL none) B.pre
  have hX : zY p s m av.toArray c b y.cls maxL D cas h0 n := ⟨B.exec, B.bytes, hml, findClass_of_methodNamed B.named, fun w h => hts w (List.mem_cons_of_mem _ h), hK, hN, hST, hsz⟩
  have hl := lv_entry av (n := maxL) hn
  rw [lg_entry_eq]
  exact body p e s m av.toArray below meth c hX B.returns B.notSynchronized (name_of_methodNamed B.named B.method).1 s.heap [] _ hP va_S.rf hl
section DE
variable {p : Program} {l : Launch} {e : Env} {R : Room} {s : State} {m : MethodId} {args : Array Value} {below : List Frame} {meth : Method} {c : Code} {D : va_G} {cas : Nat → ClassId} {h0 ne nL k0 n0 : Nat} {Q : State → Prop}
variable {cc : ByteArray} {own : String} {pc n n' : Nat} {lv : List (Nat × Value)} {st rest : List Value} {M M' : Mem}
theorem zendD {H : Heap} {locs : List Loc} (X : zY p s m args c cc own nL D cas h0 ne) (hP : va_P D vwCl (zL cas h0 n M) H) (hS : va_S (fun q => h0 ≤ q) s.heap H locs) {t : State} (ht : t.heap = H) (hW : s.WarmedH t.vm) : zGe D cas h0 n M t := by
  obtain ⟨x1, x2, x3, x4, x5, x6, x7, x8, x9⟩ := X
  refine ⟨by rw [ht]; exact hP, va_K.moved hW.alike x6, x7.warm hW, ?_⟩
  rw [ht]
  exact (x8.moved hW.alike).kept (fun a h1 h2 => hS.2.1 a h1 h2)
theorem D_vret {mc ms : Nat} (X : zY p s m args c cc own nL D cas h0 ne) (hr : meth.sig.returnType = none) (hk : meth.locks = false) (hd : decode cc pc = .ok (.return_, 1)) (hM : M = M') (h1 : k0 = mc) (h2 : n0 = ms) (h3 : n = n') : WD p l e R s m args below meth c D cas h0 nL (MQ below (zQd D cas h0 n' M') args s mc ms (fun q => h0 ≤ q)) k0 n0 pc lv [] n M := by
  subst hM; subst h1; subst h2; subst h3
  intro H locs ls hP hS hl
  exact W.vret X.1 X.2.1 hr (fun t ht hW => ⟨⟨(), rfl, trivial, zendD X hP hS ht hW⟩, hS.F ht⟩) hS.2.2 hd hk
def zyI (y : MethodName) (b : ByteArray) (maxL : Nat) : Prop := Cond.code y b maxL none ∈ wsU ∧ Cond.instanceMethod y ∈ wsU ∧ Cond.initialized y.cls ∈ wsU ∧ y.name = "<init>" ∧ (y.cls ≠ "java/lang/invoke/MethodHandle" ∧ y.cls ≠ "java/lang/invoke/VarHandle" ∧ (parseMethodDescriptor y.desc).map (fun d => d.parameters.length) = some 0)
theorem D_callI (X : zY p s m args c cc own nL D cas h0 ne) {y : MethodName} {b : ByteArray} {maxL fr lo mc ms ix k : Nat} (hM : zKd l D cas h0 y b maxL fr lo mc ms [.ref (h0 + k)] n M n' M') (hy : zyI y b maxL) (hlink : Cond.methodLink own ix y ∈ wsU) (hkn : k0 + ne = n) (hR : fr + 1 ≤ R.frames ∧ 8 + (maxL + 11) + lo ≤ R.locals) (hcs : k0 + mc ≤ R.cells ∧ n0 + ms ≤ R.slots) (hw : (rest.map fun v => v.category).sum ≤ 8) (hd : decode cc pc = .ok (.invokespecial ix, 3)) (kk : WD p l e R s m args below meth c D cas h0 nL Q (k0 + mc) (n0 + ms) (pc + 3) lv rest n' M') : WD p l e R s m args below meth c D cas h0 nL Q k0 n0 pc lv (.ref (h0 + k) :: rest) n M := by
  obtain ⟨g1, g2, g3, g4, g5⟩ := hy
  obtain ⟨x1, x2, x3, x4, x5, x6, x7, x8, x9⟩ := id X
  intro H locs ls hP hS hl
  refine zsz x9 hkn hP hS (fun hz => ?_)
  refine va_callv (va_runI (As := []) (rest := rest) ⟨x1, x2, x3, x4, x5⟩ hM ⟨callB_of 0 x5 (zgood g1) rfl rfl rfl (x5 _ g3) (x5 _ hlink) g5 hR, g4, x5 _ g2⟩ ⟨zblindD, fun U hU hW => ⟨rfl, zendD X hP hS hU hW, by rw [hU]; exact hz⟩⟩ rfl rfl hl.1 rfl (lv_room hw) hd hcs) hS (fun q _ h => h) (fun q h => h) (fun u t H1 locs1 ht _ hp hB _ _ hS1 => ?_)
  exact kk H1 locs1 ls (by rw [← ht]; exact hB.1) hS1 hl
theorem D_callIN (X : zY p s m args c cc own nL D cas h0 ne) {y : MethodName} {b : ByteArray} {maxL fr lo mc ms ix k : Nat} (hM : zKd l D cas h0 y b maxL fr lo mc ms [.ref (h0 + k)] n M n' M') (hy : zyI y b maxL) (hlink : (own, ix, y, "ShardTrails") ∈ zNest) (hkn : k0 + ne = n) (hR : fr + 1 ≤ R.frames ∧ 8 + (maxL + 11) + lo ≤ R.locals) (hcs : k0 + mc ≤ R.cells ∧ n0 + ms ≤ R.slots) (hw : (rest.map fun v => v.category).sum ≤ 8) (hd : decode cc pc = .ok (.invokespecial ix, 3)) (kk : WD p l e R s m args below meth c D cas h0 nL Q (k0 + mc) (n0 + ms) (pc + 3) lv rest n' M') : WD p l e R s m args below meth c D cas h0 nL Q k0 n0 pc lv (.ref (h0 + k) :: rest) n M := by
  obtain ⟨g1, g2, g3, g4, g5⟩ := hy
  obtain ⟨x1, x2, x3, x4, x5, x6, x7, x8, x9⟩ := id X
  intro H locs ls hP hS hl
  refine zsz x9 hkn hP hS (fun hz => ?_)
  refine va_callv (va_runIN (As := []) (rest := rest) ⟨x1, x2, x3, x4, x5⟩ hM ⟨va_cnB 0 x5 (zgood g1) rfl rfl rfl (x7.1 _ hlink) (x5 _ g3) g5 hR, g4, x5 _ g2⟩ ⟨zblindD, fun U hU hW => ⟨rfl, zendD X hP hS hU hW, by rw [hU]; exact hz⟩⟩ rfl rfl hl.1 rfl (lv_room hw) hd hcs) hS (fun q _ h => h) (fun q h => h) (fun u t H1 locs1 ht _ hp hB _ _ hS1 => ?_)
  exact kk H1 locs1 ls (by rw [← ht]; exact hB.1) hS1 hl
theorem D_callS (X : zY p s m args c cc own nL D cas h0 ne) {y : MethodName} {b : ByteArray} {maxL fr lo mc ms ix np : Nat} {av : List Value} (hM : zKd l D cas h0 y b maxL fr lo mc ms av n M n' M') (hy : zyS y b maxL np none) (hlink : Cond.methodLink own ix y ∈ wsU) (hst : st = av.reverse ++ rest) (hn : av.length = np) (hkn : k0 + ne = n) (hR : fr + 1 ≤ R.frames ∧ 8 + (maxL + 11) + lo ≤ R.locals) (hcs : k0 + mc ≤ R.cells ∧ n0 + ms ≤ R.slots) (hw : (rest.map fun v => v.category).sum ≤ 8) (hd : decode cc pc = .ok (.invokestatic ix, 3)) (kk : WD p l e R s m args below meth c D cas h0 nL Q (k0 + mc) (n0 + ms) (pc + 3) lv rest n' M') : WD p l e R s m args below meth c D cas h0 nL Q k0 n0 pc lv st n M := by
  subst hst
  obtain ⟨g1, g2, g4, g5⟩ := hy
  obtain ⟨x1, x2, x3, x4, x5, x6, x7, x8, x9⟩ := id X
  intro H locs ls hP hS hl
  refine zsz x9 hkn hP hS (fun hz => ?_)
  refine va_callv (va_runS (As := av) (rest := rest) ⟨x1, x2, x3, x4, x5⟩ hM ⟨callB_of np x5 (zgood g1) rfl rfl rfl (x5 _ g4) (x5 _ hlink) g5 hR, x5 _ g2⟩ ⟨zblindD, fun U hU hW => ⟨rfl, zendD X hP hS hU hW, by rw [hU]; exact hz⟩⟩ rfl hn hl.1 rfl (lv_room hw) hd hcs) hS (fun q _ h => h) (fun q h => h) (fun u t H1 locs1 ht _ hp hB _ _ hS1 => ?_)
  exact kk H1 locs1 ls (by rw [← ht]; exact hB.1) hS1 hl
end DE

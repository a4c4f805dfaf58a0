/-! contracts: a method over the memory; its calls, its end -/
def zGP (D : va_G) (cas : Nat → ClassId) (ad : Nat → Nat) (M : Mem) (U : State) : Prop :=
  va_P D vwCl (zW cas ad M) U.heap ∧ va_K D vwCl (zT cas) U ∧ zNW U ∧ zST (zA ad) U U.heap
theorem zGP.moved {D : va_G} {cas : Nat → ClassId} {ad : Nat → Nat} {M : Mem} {u U : State} (hh : U.heap = u.heap) (hW : u.WarmedH U.vm) (h : zGP D cas ad M u) : zGP D cas ad M U := by
  obtain ⟨h1, h2, h3, h4⟩ := h
  exact ⟨by rw [hh]; exact h1, va_K.moved hW.alike h2, h3.warm hW, by rw [hh]; exact h4.moved hW.alike⟩
abbrev zws (y : MethodName) (b : ByteArray) (maxL : Nat) (ret : Option FieldType) : List Cond := .code y b maxL ret :: wsU
abbrev zrm (fr lo : Nat) : Room := { frames := fr, cells := 0, slots := 0, locals := lo }
abbrev zQi (D : va_G) (cas : Nat → ClassId) (ad : Nat → Nat) (r : Int) (M' : Mem) : Array Value → State → Outcome → State → Prop := va_Qi (fun (r2 : Int32) (_ : Unit) => r2 = zI r) (fun _ t => zGP D cas ad M' t) (zA ad)
abbrev zQv (D : va_G) (cas : Nat → ClassId) (ad : Nat → Nat) (M' : Mem) : Array Value → State → Outcome → State → Prop := va_Qv (fun (_ : Unit) => True) (fun _ t => zGP D cas ad M' t) (zA ad)
def zMi (l : Launch) (D : va_G) (cas : Nat → ClassId) (ad : Nat → Nat) (y : MethodName) (b : ByteArray) (maxL : Nat) (ret : Option FieldType) (fr lo : Nat) (av : List Value) (M : Mem) (r : Int) (M' : Mem) : Prop :=
  Met l y (zws y b maxL ret) (zrm fr lo) (va_Pc av (fun U => zGP D cas ad M U)) (zQi D cas ad r M') 0 0 (zA ad)
def zMv (l : Launch) (D : va_G) (cas : Nat → ClassId) (ad : Nat → Nat) (y : MethodName) (b : ByteArray) (maxL : Nat) (fr lo : Nat) (av : List Value) (M : Mem) (M' : Mem) : Prop :=
  Met l y (zws y b maxL none) (zrm fr lo) (va_Pc av (fun U => zGP D cas ad M U)) (zQv D cas ad M') 0 0 (zA ad)
theorem zblind {D : va_G} {cas : Nat → ClassId} {ad : Nat → Nat} {M : Mem} {av : List Value} : FrameBlind (va_Pc av (fun U => zGP D cas ad M U)) := by
  intro a U g mk ⟨h0, h1, h2, h3, h4⟩
  refine ⟨h0, h1, va_K.moved (u := U) (U := U.calling g mk a) (Vm.Alike.refl U.vm) h2, ⟨fun q hq => va_Nw.same rfl rfl (h3.1 q hq), fun q hq => va_Nw.same rfl rfl (h3.2.1 q hq), va_Nw.same rfl rfl h3.2.2.1, va_AO.moved (u := U) (U := U.calling g mk a) (Vm.Alike.refl U.vm) h3.2.2.2⟩, h4.moved (u := U) (U := U.calling g mk a) (Vm.Alike.refl U.vm)⟩
theorem zbody {l : Launch} {D : va_G} {cas : Nat → ClassId} {ad : Nat → Nat} {y : MethodName} {b : ByteArray} {maxL : Nat} {ret : Option FieldType} {fr lo : Nat} {av : List Value} {M : Mem} {Qc : Array Value → State → Outcome → State → Prop} (hy : plainName y.cls = true) (hn : (lg_sl av).length ≤ maxL) (hi : zInj ad)
    (body : ∀ (p : Program) (e : Env) (s : State) (m : MethodId) (args : Array Value) (below : List Frame) (meth : Method) (c : Code), zX p s m args c b y.cls maxL D cas ad (zA ad) → meth.sig.returnType = ret → meth.locks = false → WW p l e (zrm fr lo) s m args below meth c D cas ad (zA ad) maxL 0 0 (MQ below Qc args s 0 0 (zA ad)) 0 (lv_args 0 av) [] M) :
    Met l y (zws y b maxL ret) (zrm fr lo) (va_Pc av (fun U => zGP D cas ad M U)) Qc 0 0 (zA ad) := by
  refine Met.ofW (cc := b) (maxL := maxL) (ret := ret) hy rfl ?_
  intro p e s m args below meth c s₁ B hml hv
  obtain ⟨rfl, hP, hK, hN, hST⟩ := hv
  have hts := atoms_spec (ws := zws y b maxL ret) B.pre
  have hX : zX p s m av.toArray c b y.cls maxL D cas ad (zA ad) := ⟨B.exec, B.bytes, hml, findClass_of_methodNamed B.named, fun w h => hts w (List.mem_cons_of_mem _ h), hK, hN, zD hi (fun _ h => h), fun _ h => h, hST⟩
  have hl := lv_entry av (n := maxL) hn
  rw [lg_entry_eq]
  exact body p e s m av.toArray below meth c hX B.returns B.notSynchronized s.heap [] _ hP va_S.rf hl
section ZE
variable {p : Program} {l : Launch} {e : Env} {R : Room} {s : State} {m : MethodId} {args : Array Value} {below : List Frame} {meth : Method} {c : Code} {D : va_G} {cas : Nat → ClassId} {ad : Nat → Nat} {nL : Nat}
variable {cc : ByteArray} {own : String} {pc : Nat} {lv : List (Nat × Value)} {M M' : Mem}
theorem zend {A : Nat → Prop} {H : Heap} {locs : List Loc} (X : zX p s m args c cc own nL D cas ad A) (hP : va_P D vwCl (zW cas ad M) H) (hS : va_S A s.heap H locs) {t : State} (ht : t.heap = H) (hW : s.WarmedH t.vm) : zGP D cas ad M t := by
  obtain ⟨x1, x2, x3, x4, x5, x6, x7, x8, x9, x10⟩ := X
  refine ⟨by rw [ht]; exact hP, va_K.moved hW.alike x6, x7.warm hW, ?_⟩
  rw [ht]
  exact ((x10.moved hW.alike).kept (fun a h1 h2 => hS.2.1 a h1 h2)).narrow x9
theorem R_iret (X : zX p s m args c cc own nL D cas ad (zA ad)) {v r : Int} (hr : meth.sig.returnType = some .int) (hk : meth.locks = false) (hd : decode cc pc = .ok (.ireturn, 1)) (hf : (some (v, M) : Option (Int × Mem)) = some (r, M')) : WW p l e R s m args below meth c D cas ad (zA ad) nL 0 0 (MQ below (zQi D cas ad r M') args s 0 0 (zA ad)) pc lv [.int (zI v)] M := by
  cases hf
  intro H locs ls hP hS hl
  exact W.iret X.1 X.2.1 hr (fun t ht hW => ⟨⟨zI v, (), rfl, rfl, zend X hP hS ht hW⟩, hS.F ht⟩) hS.2.2 hd hk
theorem R_zret (X : zX p s m args c cc own nL D cas ad (zA ad)) {v r : Int} (hb : v = 0 ∨ v = 1) (hr : meth.sig.returnType = some .boolean) (hk : meth.locks = false) (hd : decode cc pc = .ok (.ireturn, 1)) (hf : (some (v, M) : Option (Int × Mem)) = some (r, M')) : WW p l e R s m args below meth c D cas ad (zA ad) nL 0 0 (MQ below (zQi D cas ad r M') args s 0 0 (zA ad)) pc lv [.int (zI v)] M := by
  cases hf
  intro H locs ls hP hS hl
  exact W.zret X.1 X.2.1 hr (z_nZ hb) (fun t ht hW => ⟨⟨zI v, (), rfl, rfl, zend X hP hS ht hW⟩, hS.F ht⟩) hS.2.2 hd hk
theorem R_vret (X : zX p s m args c cc own nL D cas ad (zA ad)) {v r : Int} (hr : meth.sig.returnType = none) (hk : meth.locks = false) (hd : decode cc pc = .ok (.return_, 1)) (hf : (some (v, M) : Option (Int × Mem)) = some (r, M')) : WW p l e R s m args below meth c D cas ad (zA ad) nL 0 0 (MQ below (zQv D cas ad M') args s 0 0 (zA ad)) pc lv [] M := by
  cases hf
  intro H locs ls hP hS hl
  exact W.vret X.1 X.2.1 hr (fun t ht hW => ⟨⟨(), rfl, trivial, zend X hP hS ht hW⟩, hS.F ht⟩) hS.2.2 hd hk
end ZE
section ZC
variable {p : Program} {l : Launch} {e : Env} {R : Room} {s : State} {m : MethodId} {args : Array Value} {below : List Frame} {meth : Method} {c : Code} {D : va_G} {cas : Nat → ClassId} {ad : Nat → Nat} {A : Nat → Prop} {nL k0 n0 : Nat} {Q : State → Prop}
variable {cc : ByteArray} {own : String} {pc : Nat} {lv : List (Nat × Value)} {st rest : List Value} {M M' : Mem}
theorem zpc (X : zX p s m args c cc own nL D cas ad A) {H : Heap} {locs : List Loc} (hP : va_P D vwCl (zW cas ad M) H) (hS : va_S A s.heap H locs) {av : List Value} {U : State} (hU : U.heap = H) (hW : s.WarmedH U.vm) : va_Pc av (fun U => zGP D cas ad M U) av.toArray U := ⟨rfl, zend X hP hS hU hW⟩
theorem zgood {y : MethodName} {b : ByteArray} {maxL : Nat} {ret : Option FieldType} (hcode : Cond.code y b maxL ret ∈ wsU) : GoodIn wsU (zws y b maxL ret) := by
  intro w hw
  rcases List.mem_cons.mp hw with rfl | h
  · exact wsU_good _ hcode
  · exact wsU_good _ h
/-- the words of a method that calls ask for -/
def zyV (y : MethodName) (b : ByteArray) (maxL n : Nat) (ret : Option FieldType) : Prop := Cond.code y b maxL ret ∈ wsU ∧ Cond.instanceMethod y ∈ wsU ∧ Cond.selects y.cls y y ∈ wsU ∧ Cond.initialized y.cls ∈ wsU ∧ (y.cls ≠ "java/lang/invoke/MethodHandle" ∧ y.cls ≠ "java/lang/invoke/VarHandle" ∧ (parseMethodDescriptor y.desc).map (fun d => d.parameters.length) = some n)
def zyS (y : MethodName) (b : ByteArray) (maxL n : Nat) (ret : Option FieldType) : Prop := Cond.code y b maxL ret ∈ wsU ∧ Cond.static y ∈ wsU ∧ Cond.initialized y.cls ∈ wsU ∧ (y.cls ≠ "java/lang/invoke/MethodHandle" ∧ y.cls ≠ "java/lang/invoke/VarHandle" ∧ (parseMethodDescriptor y.desc).map (fun d => d.parameters.length) = some n)
theorem zcwV (X : zX p s m args c cc own nL D cas ad A) {y : MethodName} {b : ByteArray} {maxL n fr lo ix : Nat} {ret : Option FieldType} (hy : zyV y b maxL n ret) (hlink : Cond.methodLink own ix y ∈ wsU) (hR : fr + 1 ≤ R.frames ∧ 8 + (maxL + 11) + lo ≤ R.locals) : CallW R s args own y.cls ix y b maxL ret (zws y b maxL ret) (zrm fr lo) 0 0 n := by
  obtain ⟨h1, h2, h3, h4, h5⟩ := hy
  obtain ⟨x1, x2, x3, x4, x5, x6, x7, x8, x9, x10⟩ := X
  exact ⟨callB_of n x5 (zgood h1) rfl rfl rfl (x5 _ h4) (x5 _ hlink) h5 hR, x5 _ h2, x5 _ h3⟩
theorem zcwS (X : zX p s m args c cc own nL D cas ad A) {y : MethodName} {b : ByteArray} {maxL n fr lo ix : Nat} {ret : Option FieldType} (hy : zyS y b maxL n ret) (hlink : Cond.methodLink own ix y ∈ wsU) (hR : fr + 1 ≤ R.frames ∧ 8 + (maxL + 11) + lo ≤ R.locals) : CallB R s args own ix y b maxL ret (zws y b maxL ret) (zrm fr lo) 0 0 n ∧ (Cond.static y).before args s = true := by
  obtain ⟨h1, h2, h4, h5⟩ := hy
  obtain ⟨x1, x2, x3, x4, x5, x6, x7, x8, x9, x10⟩ := X
  exact ⟨callB_of n x5 (zgood h1) rfl rfl rfl (x5 _ h4) (x5 _ hlink) h5 hR, x5 _ h2⟩
theorem zcwN (X : zX p s m args c cc own nL D cas ad A) {y : MethodName} {b : ByteArray} {maxL n fr lo ix : Nat} {ret : Option FieldType} (hy : zyS y b maxL n ret) (hlink : (own, ix, y, "ShardTrails") ∈ zNest) (hR : fr + 1 ≤ R.frames ∧ 8 + (maxL + 11) + lo ≤ R.locals) : va_CN R s args own ix y "ShardTrails" b maxL ret (zws y b maxL ret) (zrm fr lo) 0 0 n ∧ (Cond.static y).before args s = true ∧ True := by
  obtain ⟨h1, h2, h4, h5⟩ := hy
  obtain ⟨x1, x2, x3, x4, x5, x6, x7, x8, x9, x10⟩ := X
  exact ⟨va_cnB n x5 (zgood h1) rfl rfl rfl (x7.1 _ hlink) (x5 _ h4) h5 hR, x5 _ h2, trivial⟩
theorem zafter (X : zX p s m args c cc own nL D cas ad A) {H1 : Heap} {locs1 : List Loc} {ls : Array Slot} {t : State} {st' : List Value} (k : WW p l e R s m args below meth c D cas ad A nL k0 n0 Q (pc + 3) lv st' M') (ht : t.heap = H1) (hB : zGP D cas ad M' t) (hS : va_S A s.heap H1 locs1) (hl : lv_has ls nL lv) : W p l e R s m args below meth c H1 locs1 (k0 + 0) (n0 + 0) Q (F0 m (pc + 3) ls st') := k H1 locs1 ls (by rw [← ht]; exact hB.1) hS hl
theorem R_callVi (X : zX p s m args c cc own nL D cas ad A) {y : MethodName} {b : ByteArray} {maxL n fr lo ix k ci N : Nat} {C : String} {T : u_T} {ret : Option FieldType} {av : List Value} {r : Int} (hM : zMi l D cas ad y b maxL ret fr lo (.ref (ad k) :: av) M r M') (hy : zyV y b maxL n ret) (hk : k < zN ∧ lay k = (0, ci)) (hc : vwCl[ci]? = some (C, T, N)) (hC : C = y.cls) (hlink : Cond.methodLink own ix y ∈ wsU) (hst : st = av.reverse ++ .ref (ad k) :: rest) (hn : av.length = n) (hR : fr + 1 ≤ R.frames ∧ 8 + (maxL + 11) + lo ≤ R.locals) (hcs : k0 ≤ R.cells ∧ n0 ≤ R.slots) (hw : (rest.map fun v => v.category).sum ≤ 8) (hd : decode cc pc = .ok (.invokevirtual ix, 3)) (kk : WW p l e R s m args below meth c D cas ad A nL k0 n0 Q (pc + 3) lv (.int (zI r) :: rest) M') : WW p l e R s m args below meth c D cas ad A nL k0 n0 Q pc lv st M := by
  subst hst; subst hC
  intro H locs ls hP hS hl
  have he := zW_get (cas := cas) (ad := ad) (M := M) hk.1
  rw [zC_0 hk.2] at he
  refine va_calli (va_runV (As := av) (rest := rest) ⟨X.1, X.2.1, X.2.2.1, X.2.2.2.1, X.2.2.2.2.1⟩ hM (zcwV X hy hlink hR) ⟨zblind, va_recv X.2.2.2.2.2.1 hP hc he, fun U hU hW => zpc X hP hS hU hW⟩ rfl hn hl.1 rfl (lv_room hw) hd hcs) hS (fun q _ h => X.2.2.2.2.2.2.2.2.1 q h) X.2.2.2.2.2.2.2.2.1 (fun r1 u t H1 locs1 ht _ hp hB _ _ hS1 => ?_)
  rw [hp]
  exact zafter X kk ht hB hS1 hl
theorem R_callVv (X : zX p s m args c cc own nL D cas ad A) {y : MethodName} {b : ByteArray} {maxL n fr lo ix k ci N : Nat} {C : String} {T : u_T} {av : List Value} (hM : zMv l D cas ad y b maxL fr lo (.ref (ad k) :: av) M M') (hy : zyV y b maxL n none) (hk : k < zN ∧ lay k = (0, ci)) (hc : vwCl[ci]? = some (C, T, N)) (hC : C = y.cls) (hlink : Cond.methodLink own ix y ∈ wsU) (hst : st = av.reverse ++ .ref (ad k) :: rest) (hn : av.length = n) (hR : fr + 1 ≤ R.frames ∧ 8 + (maxL + 11) + lo ≤ R.locals) (hcs : k0 ≤ R.cells ∧ n0 ≤ R.slots) (hw : (rest.map fun v => v.category).sum ≤ 8) (hd : decode cc pc = .ok (.invokevirtual ix, 3)) (kk : WW p l e R s m args below meth c D cas ad A nL k0 n0 Q (pc + 3) lv rest M') : WW p l e R s m args below meth c D cas ad A nL k0 n0 Q pc lv st M := by
  subst hst; subst hC
  intro H locs ls hP hS hl
  have he := zW_get (cas := cas) (ad := ad) (M := M) hk.1
  rw [zC_0 hk.2] at he
  refine va_callv (va_runV (As := av) (rest := rest) ⟨X.1, X.2.1, X.2.2.1, X.2.2.2.1, X.2.2.2.2.1⟩ hM (zcwV X hy hlink hR) ⟨zblind, va_recv X.2.2.2.2.2.1 hP hc he, fun U hU hW => zpc X hP hS hU hW⟩ rfl hn hl.1 rfl (lv_room hw) hd hcs) hS (fun q _ h => X.2.2.2.2.2.2.2.2.1 q h) X.2.2.2.2.2.2.2.2.1 (fun u t H1 locs1 ht _ hp hB _ _ hS1 => ?_)
  exact zafter X kk ht hB hS1 hl
theorem R_callSi (X : zX p s m args c cc own nL D cas ad A) {y : MethodName} {b : ByteArray} {maxL n fr lo ix : Nat} {ret : Option FieldType} {av : List Value} {r : Int} (hM : zMi l D cas ad y b maxL ret fr lo av M r M') (hy : zyS y b maxL n ret) (hlink : Cond.methodLink own ix y ∈ wsU) (hst : st = av.reverse ++ rest) (hn : av.length = n) (hR : fr + 1 ≤ R.frames ∧ 8 + (maxL + 11) + lo ≤ R.locals) (hcs : k0 ≤ R.cells ∧ n0 ≤ R.slots) (hw : (rest.map fun v => v.category).sum ≤ 8) (hd : decode cc pc = .ok (.invokestatic ix, 3)) (kk : WW p l e R s m args below meth c D cas ad A nL k0 n0 Q (pc + 3) lv (.int (zI r) :: rest) M') : WW p l e R s m args below meth c D cas ad A nL k0 n0 Q pc lv st M := by
  subst hst
  intro H locs ls hP hS hl
  refine va_calli (va_runS (As := av) (rest := rest) ⟨X.1, X.2.1, X.2.2.1, X.2.2.2.1, X.2.2.2.2.1⟩ hM (zcwS X hy hlink hR) ⟨zblind, fun U hU hW => zpc X hP hS hU hW⟩ rfl hn hl.1 rfl (lv_room hw) hd hcs) hS (fun q _ h => X.2.2.2.2.2.2.2.2.1 q h) X.2.2.2.2.2.2.2.2.1 (fun r1 u t H1 locs1 ht _ hp hB _ _ hS1 => ?_)
  rw [hp]
  exact zafter X kk ht hB hS1 hl
theorem R_callSv (X : zX p s m args c cc own nL D cas ad A) {y : MethodName} {b : ByteArray} {maxL n fr lo ix : Nat} {av : List Value} (hM : zMv l D cas ad y b maxL fr lo av M M') (hy : zyS y b maxL n none) (hlink : Cond.methodLink own ix y ∈ wsU) (hst : st = av.reverse ++ rest) (hn : av.length = n) (hR : fr + 1 ≤ R.frames ∧ 8 + (maxL + 11) + lo ≤ R.locals) (hcs : k0 ≤ R.cells ∧ n0 ≤ R.slots) (hw : (rest.map fun v => v.category).sum ≤ 8) (hd : decode cc pc = .ok (.invokestatic ix, 3)) (kk : WW p l e R s m args below meth c D cas ad A nL k0 n0 Q (pc + 3) lv rest M') : WW p l e R s m args below meth c D cas ad A nL k0 n0 Q pc lv st M := by
  subst hst
  intro H locs ls hP hS hl
  refine va_callv (va_runS (As := av) (rest := rest) ⟨X.1, X.2.1, X.2.2.1, X.2.2.2.1, X.2.2.2.2.1⟩ hM (zcwS X hy hlink hR) ⟨zblind, fun U hU hW => zpc X hP hS hU hW⟩ rfl hn hl.1 rfl (lv_room hw) hd hcs) hS (fun q _ h => X.2.2.2.2.2.2.2.2.1 q h) X.2.2.2.2.2.2.2.2.1 (fun u t H1 locs1 ht _ hp hB _ _ hS1 => ?_)
  exact zafter X kk ht hB hS1 hl
theorem R_callNi (X : zX p s m args c cc own nL D cas ad A) {y : MethodName} {b : ByteArray} {maxL n fr lo ix : Nat} {ret : Option FieldType} {av : List Value} {r : Int} (hM : zMi l D cas ad y b maxL ret fr lo av M r M') (hy : zyS y b maxL n ret) (hlink : (own, ix, y, "ShardTrails") ∈ zNest) (hst : st = av.reverse ++ rest) (hn : av.length = n) (hR : fr + 1 ≤ R.frames ∧ 8 + (maxL + 11) + lo ≤ R.locals) (hcs : k0 ≤ R.cells ∧ n0 ≤ R.slots) (hw : (rest.map fun v => v.category).sum ≤ 8) (hd : decode cc pc = .ok (.invokestatic ix, 3)) (kk : WW p l e R s m args below meth c D cas ad A nL k0 n0 Q (pc + 3) lv (.int (zI r) :: rest) M') : WW p l e R s m args below meth c D cas ad A nL k0 n0 Q pc lv st M := by
  subst hst
  intro H locs ls hP hS hl
  refine va_calli (va_runSN (As := av) (rest := rest) ⟨X.1, X.2.1, X.2.2.1, X.2.2.2.1, X.2.2.2.2.1⟩ hM (zcwN X hy hlink hR) ⟨zblind, fun U hU hW => zpc X hP hS hU hW⟩ rfl hn hl.1 rfl (lv_room hw) hd hcs) hS (fun q _ h => X.2.2.2.2.2.2.2.2.1 q h) X.2.2.2.2.2.2.2.2.1 (fun r1 u t H1 locs1 ht _ hp hB _ _ hS1 => ?_)
  rw [hp]
  exact zafter X kk ht hB hS1 hl
theorem R_callNv (X : zX p s m args c cc own nL D cas ad A) {y : MethodName} {b : ByteArray} {maxL n fr lo ix : Nat} {av : List Value} (hM : zMv l D cas ad y b maxL fr lo av M M') (hy : zyS y b maxL n none) (hlink : (own, ix, y, "ShardTrails") ∈ zNest) (hst : st = av.reverse ++ rest) (hn : av.length = n) (hR : fr + 1 ≤ R.frames ∧ 8 + (maxL + 11) + lo ≤ R.locals) (hcs : k0 ≤ R.cells ∧ n0 ≤ R.slots) (hw : (rest.map fun v => v.category).sum ≤ 8) (hd : decode cc pc = .ok (.invokestatic ix, 3)) (kk : WW p l e R s m args below meth c D cas ad A nL k0 n0 Q (pc + 3) lv rest M') : WW p l e R s m args below meth c D cas ad A nL k0 n0 Q pc lv st M := by
  subst hst
  intro H locs ls hP hS hl
  refine va_callv (va_runSN (As := av) (rest := rest) ⟨X.1, X.2.1, X.2.2.1, X.2.2.2.1, X.2.2.2.2.1⟩ hM (zcwN X hy hlink hR) ⟨zblind, fun U hU hW => zpc X hP hS hU hW⟩ rfl hn hl.1 rfl (lv_room hw) hd hcs) hS (fun q _ h => X.2.2.2.2.2.2.2.2.1 q h) X.2.2.2.2.2.2.2.2.1 (fun u t H1 locs1 ht _ hp hB _ _ hS1 => ?_)
  exact zafter X kk ht hB hS1 hl
end ZC

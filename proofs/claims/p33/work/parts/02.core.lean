/-! numbers: an int of the machine as a whole number -/
def zI (z : Int) : Int32 := Int32.ofInt z
abbrev inR (a : Int) : Prop := -2147483648 ≤ a ∧ a ≤ 2147483647
theorem zI_add (a b : Int) : zI a + zI b = zI (a + b) := (Int32.ofInt_add a b).symm
theorem zI_sub (a b : Int) : zI a - zI b = zI (a - b) := (Int32.ofInt_sub a b).symm
theorem zI_mul (a b : Int) : zI a * zI b = zI (a * b) := (Int32.ofInt_mul a b).symm
theorem zI_neg (a : Int) : - zI a = zI (-a) := (Int32.ofInt_neg a).symm
theorem zI_toInt {a : Int} (h : inR a) : (zI a).toInt = a := Int32.toInt_ofInt_of_le (by omega) (by omega)
theorem zI_of (x : Int32) : x = zI x.toInt := (Int32.ofInt_toInt x).symm
theorem zI_in (x : Int32) : inR x.toInt := ⟨Int32.le_toInt x, by have := Int32.toInt_lt x; omega⟩
theorem zI_lt {a b : Int} (h : inR a ∧ inR b) : zI a < zI b ↔ a < b := by rw [Int32.lt_iff_toInt_lt, zI_toInt h.1, zI_toInt h.2]
theorem zI_le {a b : Int} (h : inR a ∧ inR b) : zI a ≤ zI b ↔ a ≤ b := by rw [Int32.le_iff_toInt_le, zI_toInt h.1, zI_toInt h.2]
theorem zI_eq {a b : Int} (h : inR a ∧ inR b) : zI a = zI b ↔ a = b := ⟨fun e => by rw [← zI_toInt h.1, e, zI_toInt h.2], fun e => by rw [e]⟩
theorem zI_0 : (0 : Int32) = zI 0 := by decide +kernel
theorem zI_div {a b : Int} (h : inR a ∧ inR b) : zI a / zI b = zI (a.tdiv b) :=
  (Int32.ofInt_tdiv (show (-2147483648 : Int) ≤ a from h.1.1) (show a ≤ (2147483647 : Int) from h.1.2) (show (-2147483648 : Int) ≤ b from h.2.1) (show b ≤ (2147483647 : Int) from h.2.2)).symm
theorem zI_rem {a b : Int} (h : inR a ∧ inR b) : zI a - zI a / zI b * zI b = zI (a.tmod b) := by
  rw [zI_div h, zI_mul, zI_sub]
  congr 1
  have := Int.mul_tdiv_add_tmod a b
  rw [Int.mul_comm] at this
  omega
theorem zI_ofNat (n : Nat) : Int32.ofNat n = zI (n : Int) := Int32.ofInt_eq_ofNat.symm
theorem zI_clamp {i : Int} (h : inR i) : (zI i).toNatClampNeg = i.toNat := Int32.toNatClampNeg_ofInt_of_le (by omega) (by omega)
theorem zI_vp {i : Int} {n : Nat} (h : 0 ≤ i ∧ i < (n : Int)) (hn : n ≤ 2147483647) : vp_in (zI i) n := by
  have hr : inR i := ⟨by omega, by omega⟩
  rw [vp_in_iff, zI_toInt hr]
  exact h
theorem zI_cl {i : Int} {n : Nat} (h : 0 ≤ i ∧ i < (n : Int)) (hn : n ≤ 2147483647) : (zI i).toNatClampNeg = i.toNat := zI_clamp ⟨by omega, by omega⟩
/-! a long of the machine as a whole number -/
def zJ (z : Int) : Int64 := Int64.ofInt z
theorem zJ_add (a b : Int) : zJ a + zJ b = zJ (a + b) := (Int64.ofInt_add a b).symm
theorem zJ_mul (a b : Int) : zJ a * zJ b = zJ (a * b) := (Int64.ofInt_mul a b).symm
def i2l (a : Int) : Int := (zI a).toInt
theorem zJ_i2l (a : Int) : (zI a).toInt64 = zJ (i2l a) := Int64.toInt_inj.mp (by
  have h1 := Int32.le_toInt (zI a)
  have h2 := Int32.toInt_lt (zI a)
  rw [Int32.toInt_toInt64]
  unfold zJ i2l
  rw [Int64.toInt_ofInt_of_le (by omega) (by omega)])
theorem i2l_in {a : Int} (h : inR a) : i2l a = a := zI_toInt h
def zcmp (a b : Int) : Int := (lg_cmp (zJ a) (zJ b)).toInt
theorem zcmp_in (a b : Int) : inR (zcmp a b) := zI_in _
theorem zcmp_rf (a : Int) : zcmp a a = 0 := by simp [zcmp, lg_cmp]
def iand (a b : Int) : Int := (zI a &&& zI b).toInt
def ior (a b : Int) : Int := (zI a ||| zI b).toInt
def ishl (a b : Int) : Int := (zI a <<< (zI b &&& 31)).toInt
def ishr (a b : Int) : Int := (zI a >>> (zI b &&& 31)).toInt
def imin (a b : Int) : Int := if b < a then b else a
def imax (a b : Int) : Int := if a < b then b else a
def iabs (a : Int) : Int := if 0 ≤ a then a else 0 - a
theorem zI_c2 {a : Int} (h : inR a) : ((zI a).toUInt32 % 65536).toInt32 = zI (a % 65536) := by
  apply Int32.toBitVec_inj.mp
  apply BitVec.eq_of_toNat_eq
  have e1 : ((zI a).toUInt32 % 65536).toInt32.toBitVec.toNat = (BitVec.ofInt 32 a).toNat % 65536 := by
    show ((zI a).toUInt32 % 65536).toNat = _
    rw [UInt32.toNat_mod]
    rfl
  have e2 : (zI (a % 65536)).toBitVec.toNat = (BitVec.ofInt 32 (a % 65536)).toNat := rfl
  rw [e1, e2, BitVec.toNat_ofInt, BitVec.toNat_ofInt]
  omega
/-! the memory: cells by number, each a row of whole numbers -/
abbrev Mem : Type := Nat → Nat → Int
def up (f : Nat → Int) (i : Nat) (v : Int) : Nat → Int := fun j => if j = i then v else f j
def wr (M : Mem) (k i : Nat) (v : Int) : Mem := fun a => if a = k then up (M k) i v else M a
def cpf (f g : Nat → Int) (sp dp n : Nat) : Nat → Int := fun k => if dp ≤ k ∧ k < dp + n then f (sp + (k - dp)) else g k
def cpM (M : Mem) (k0 : Nat) (sp : Int) (k1 : Nat) (dp n : Int) : Mem := fun a => if a = k1 then cpf (M k0) (M k1) sp.toNat dp.toNat n.toNat else M a
/-- 0 an object of a kind, 1 a row of ints, 2 of booleans, 3 of chars, 4 of states: with kind or length -/
def layS : List (Nat × Nat) := [(0, 7), (1, 6), (1, 4), (0, 2), (1, 8), (1, 8), (1, 8), (1, 8), (2, 8), (1, 128), (0, 8), (1, 128), (1, 128), (0, 0), (1, 16), (1, 16), (1, 16), (1, 256), (0, 3), (1, 3), (1, 3), (0, 4), (1, 6), (1, 6), (1, 6), (1, 6), (1, 6), (1, 96), (1, 16)]
def layL : List (Nat × Nat) := [(0, 9)] ++ layS ++ layS ++ layS ++ [(0, 1), (4, 4)] ++ layS ++ layS ++ layS ++ layS ++ [(0, 6), (1, 137), (2, 8), (2, 8), (0, 5), (1, 16), (1, 16), (1, 16), (3, 60)]
def lay (k : Nat) : Nat × Nat := layL.getD k (9, 0)
def offL : List (List Nat) := [[1, 2, 3, 4], [0, 0, 1], [0, 1, 2, 3, 4, 5, 6], [0, 1, 2], [0, 1, 2, 3, 4, 5, 6], [0, 0, 1, 2, 3, 4, 0], [0, 0, 0, 0, 0, 0, 1, 2, 3], [0, 0, 0, 1, 2, 3, 10, 13, 18, 21, 28], [1, 2], [1, 30, 59, 88, 206, 210, 0]]
def off (ci j : Nat) : Nat := (offL.getD ci []).getD j 0
def nfl (ci : Nat) : Nat := (offL.getD ci []).length
theorem lay_small : ∀ k, k < 215 → (lay k).2 ≤ 6097 := by decide +kernel
def zN : Nat := 215
def zC (cas : Nat → ClassId) (ad : Nat → Nat) (k : Nat) (f : Nat → Int) : va_E := match lay k with
  | (0, ci) => .inr (ci, (List.range (nfl ci)).map (fun j => if off ci j = 0 then .int (zI (f j)) else .ref (ad (k + off ci j))))
  | (1, n) => .inl (cas 0, n, .inl (fun j => zI (f j)))
  | (2, n) => .inl (cas 1, n, .inl (fun j => zI (f j)))
  | (3, n) => .inl (cas 2, n, .inl (fun j => zI (f j)))
  | (_, n) => .inl (cas 3, n, .inr (.inr (.inr (.inr (fun j => some (ad (k + 1 + 29 * j)))))))
theorem zC_0 {cas : Nat → ClassId} {ad : Nat → Nat} {k ci : Nat} {f : Nat → Int} (h : lay k = (0, ci)) : zC cas ad k f = .inr (ci, (List.range (nfl ci)).map (fun j => if off ci j = 0 then .int (zI (f j)) else .ref (ad (k + off ci j)))) := by simp [zC, h]
theorem zC_1 {cas : Nat → ClassId} {ad : Nat → Nat} {k n : Nat} {f : Nat → Int} (h : lay k = (1, n)) : zC cas ad k f = .inl (cas 0, n, .inl (fun j => zI (f j))) := by simp [zC, h]
theorem zC_2 {cas : Nat → ClassId} {ad : Nat → Nat} {k n : Nat} {f : Nat → Int} (h : lay k = (2, n)) : zC cas ad k f = .inl (cas 1, n, .inl (fun j => zI (f j))) := by simp [zC, h]
theorem zC_3 {cas : Nat → ClassId} {ad : Nat → Nat} {k n : Nat} {f : Nat → Int} (h : lay k = (3, n)) : zC cas ad k f = .inl (cas 2, n, .inl (fun j => zI (f j))) := by simp [zC, h]
theorem zC_4 {cas : Nat → ClassId} {ad : Nat → Nat} {k n : Nat} {f : Nat → Int} (h : lay k = (4, n)) : zC cas ad k f = .inl (cas 3, n, .inr (.inr (.inr (.inr (fun j => some (ad (k + 1 + 29 * j))))))) := by simp [zC, h]
def zG (ad : Nat → Nat) (C : Nat → va_E) : va_W := (List.range zN).map (fun k => (ad k, C k))
def zW (cas : Nat → ClassId) (ad : Nat → Nat) (M : Mem) : va_W := zG ad (fun k => zC cas ad k (M k))
theorem zG_get {ad : Nat → Nat} {C : Nat → va_E} {k : Nat} (h : k < zN) : (zG ad C)[k]? = some (ad k, C k) := by
  unfold zG
  rw [List.getElem?_map, List.getElem?_range h]
  rfl
theorem zG_set {ad : Nat → Nat} {C : Nat → va_E} {k : Nat} (h : k < zN) (x : va_E) : (zG ad C).set k (ad k, x) = zG ad (fun a => if a = k then x else C a) := by
  apply List.ext_getElem?
  intro i
  rw [List.getElem?_set]
  by_cases hi : i < zN
  · rw [zG_get hi]
    by_cases e : k = i
    · subst e
      simp [zG, hi]
    · rw [if_neg e, zG_get hi, if_neg (fun q => e q.symm)]
  · have h1 : ∀ C' : Nat → va_E, (zG ad C')[i]? = none := fun C' => List.getElem?_eq_none (by simp [zG]; omega)
    rw [if_neg (by omega), h1, h1]
theorem zW_get {cas : Nat → ClassId} {ad : Nat → Nat} {M : Mem} {k : Nat} (h : k < zN) : (zW cas ad M)[k]? = some (ad k, zC cas ad k (M k)) := zG_get h
theorem zW_set {cas : Nat → ClassId} {ad : Nat → Nat} {M : Mem} {k : Nat} (h : k < zN) {x : va_E} {f : Nat → Int} (hx : x = zC cas ad k f) : (zW cas ad M).set k (ad k, x) = zW cas ad (fun a => if a = k then f else M a) := by
  unfold zW
  rw [zG_set h, hx]
  unfold zG
  congr 1
  funext a
  by_cases e : a = k
  · subst e; simp
  · simp [e]
def zA (ad : Nat → Nat) : Nat → Prop := fun q => ∃ k, k < zN ∧ q = ad k
def zInj (ad : Nat → Nat) : Prop := ∀ i j, i < zN → j < zN → ad i = ad j → i = j
theorem zD {A : Nat → Prop} {ad : Nat → Nat} (hi : zInj ad) (hA : ∀ q, zA ad q → A q) (C : Nat → va_E) : va_D A (zG ad C) := by
  have key : ∀ (i : Nat) (p : Nat × va_E), (zG ad C)[i]? = some p → i < zN ∧ p = (ad i, C i) := by
    intro i p h
    by_cases hl : i < zN
    · rw [zG_get hl] at h; cases h; exact ⟨hl, rfl⟩
    · rw [List.getElem?_eq_none (by simp [zG]; omega)] at h; cases h
  refine ⟨fun i j p q hp hq e => ?_, fun k q hk => ?_⟩
  · obtain ⟨h1, rfl⟩ := key i p hp
    obtain ⟨h2, rfl⟩ := key j q hq
    exact hi i j h1 h2 e
  · obtain ⟨h1, rfl⟩ := key k q hk
    exact hA _ ⟨k, h1, rfl⟩
/-! what else a state must hold: array kinds, links of nest mates, the four static rows -/
def zT (cas : Nat → ClassId) : List (ClassId × FieldType) := [(cas 0, .int), (cas 1, .boolean), (cas 2, .char), (cas 3, .object "ShardTrails$State")]
def zNest : List (String × Nat × MethodName × String) := [("ShardTrails", 11, ⟨"ShardTrails$State", "<init>", "()V"⟩, "ShardTrails"), ("ShardTrails$State", 45, ⟨"ShardTrails$Herd", "<init>", "()V"⟩, "ShardTrails"), ("ShardTrails$State", 52, ⟨"ShardTrails$Pack", "<init>", "()V"⟩, "ShardTrails"), ("ShardTrails$State", 59, ⟨"ShardTrails$Readers", "<init>", "()V"⟩, "ShardTrails"), ("ShardTrails$History", 17, ⟨"ShardTrails$State", "<init>", "()V"⟩, "ShardTrails"), ("ShardTrails", 31, ⟨"ShardTrails$Route", "<init>", "()V"⟩, "ShardTrails"), ("ShardTrails", 38, ⟨"ShardTrails$RequestText", "<init>", "()V"⟩, "ShardTrails"), ("ShardTrails$State", 77, ⟨"ShardTrails", "copyRow", "([I[I)V"⟩, "ShardTrails"), ("ShardTrails$Land", 41, ⟨"ShardTrails", "copyRow", "([I[I)V"⟩, "ShardTrails"), ("ShardTrails$Tracks", 24, ⟨"ShardTrails", "copyRow", "([I[I)V"⟩, "ShardTrails"), ("ShardTrails$Herd", 24, ⟨"ShardTrails", "copyRow", "([I[I)V"⟩, "ShardTrails"), ("ShardTrails$Pack", 22, ⟨"ShardTrails", "copyRow", "([I[I)V"⟩, "ShardTrails"), ("ShardTrails$Readers", 34, ⟨"ShardTrails", "copyRow", "([I[I)V"⟩, "ShardTrails"), ("ShardTrails$Readers", 38, ⟨"ShardTrails", "cell", "(II)I"⟩, "ShardTrails"), ("ShardTrails$Tracks", 28, ⟨"ShardTrails", "cell", "(II)I"⟩, "ShardTrails"), ("ShardTrails$Land", 51, ⟨"ShardTrails", "cell", "(II)I"⟩, "ShardTrails"), ("ShardTrails$Route", 33, ⟨"ShardTrails", "cell", "(II)I"⟩, "ShardTrails")]
def zNestF : List (String × Nat × String) := [("ShardTrails$State", 9, "FIRST_NUMBERS"), ("ShardTrails$State", 23, "FIRST_LATITUDES")]
def zNW (U : State) : Prop := (∀ q ∈ zNest, va_Nw (.methodLinkNest q.1 q.2.1 q.2.2.1 q.2.2.2) U) ∧ (∀ q ∈ zNestF, va_Nw (.fieldLinkNest q.1 q.2.1 "ShardTrails" q.2.2 "[I" "ShardTrails") U) ∧ va_Nw (.castable "[I" "java/lang/Cloneable") U ∧ va_AO "ShardTrails$State" U
theorem zNW.warm {s U : State} (hW : s.WarmedH U.vm) (h : zNW s) : zNW U := ⟨fun q hq => va_Nw.warmM hW (h.1 q hq), fun q hq => va_Nw.warmF hW (h.2.1 q hq), va_Nw.warmC hW h.2.2.1, va_AO.moved hW.alike h.2.2.2⟩
def zR0 (j : Nat) : Int := [1, 1, 1, 0, 1, 0].getD j 0
def zR1 (j : Nat) : Int := [30, 60, 90, 16, 30, 100].getD j 0
def zR2 (j : Nat) : Int := [5, 10, 10, 4, 3, 20].getD j 0
def zR3 (j : Nat) : Int := [60, 40, 20, 40].getD j 0
def zSx (t N : Nat) (U : State) (H : Heap) : Prop := ∃ cell : Cell, H[t]? = some cell ∧ cell.slots.size = N ∧ U.vm.findClass "[I" = some cell.cls ∧ ∀ k, cell.vm ≠ .statics k
def zS1 (n : String) (N : Nat) (f : Nat → Int) (A : Nat → Prop) (U : State) (H : Heap) : Prop := ∃ t : Nat, va_Z "ShardTrails" n "[I" (.ref t) A U H ∧ va_T .int t N (fun j => .int (zI (f j))) A U H ∧ zSx t N U H
theorem zS1.moved {n : String} {N : Nat} {f : Nat → Int} {A : Nat → Prop} {u U : State} {H : Heap} (hvm : u.vm.Alike U.vm) (h : zS1 n N f A u H) : zS1 n N f A U H := by
  obtain ⟨t, h1, h2, cell, h3, h4, h5, h6⟩ := h
  exact ⟨t, h1.moved hvm, h2.moved hvm, cell, h3, h4, by rw [hvm.findClass]; exact h5, h6⟩
theorem zS1.kept {n : String} {N : Nat} {f : Nat → Int} {A : Nat → Prop} {U : State} {H H1 : Heap} (h : zS1 n N f A U H) (hq : ∀ a : Nat, a < H.size → ¬ A a → H1[a]? = H[a]?) : zS1 n N f A U H1 := by
  obtain ⟨t, h1, h2, cell, h3, h4, h5, h6⟩ := h
  exact ⟨t, h1.kept hq, h2.kept hq, cell, by rw [hq t (Array.getElem?_eq_some_iff.mp h3).1 h2.out]; exact h3, h4, h5, h6⟩
theorem zS1.narrow {n : String} {N : Nat} {f : Nat → Int} {A B : Nat → Prop} {U : State} {H : Heap} (h : zS1 n N f A U H) (hAB : ∀ q, B q → A q) : zS1 n N f B U H := by
  obtain ⟨t, h1, h2, h3⟩ := h
  exact ⟨t, h1.narrow hAB, h2.narrow hAB, h3⟩
def zST (A : Nat → Prop) (U : State) (H : Heap) : Prop := zS1 "LEAST_NUMBERS" 6 zR0 A U H ∧ zS1 "MOST_NUMBERS" 6 zR1 A U H ∧ zS1 "FIRST_NUMBERS" 6 zR2 A U H ∧ zS1 "FIRST_LATITUDES" 4 zR3 A U H
theorem zST.moved {A : Nat → Prop} {u U : State} {H : Heap} (hvm : u.vm.Alike U.vm) (h : zST A u H) : zST A U H := ⟨h.1.moved hvm, h.2.1.moved hvm, h.2.2.1.moved hvm, h.2.2.2.moved hvm⟩
theorem zST.kept {A : Nat → Prop} {U : State} {H H1 : Heap} (h : zST A U H) (hq : ∀ a : Nat, a < H.size → ¬ A a → H1[a]? = H[a]?) : zST A U H1 := ⟨h.1.kept hq, h.2.1.kept hq, h.2.2.1.kept hq, h.2.2.2.kept hq⟩
theorem zST.narrow {A B : Nat → Prop} {U : State} {H : Heap} (h : zST A U H) (hAB : ∀ q, B q → A q) : zST B U H := ⟨h.1.narrow hAB, h.2.1.narrow hAB, h.2.2.1.narrow hAB, h.2.2.2.narrow hAB⟩

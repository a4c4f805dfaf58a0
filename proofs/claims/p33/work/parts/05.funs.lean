def f_X9_isWithin_b15 (t1 : Int) (M : Mem) : Option (Int × Mem) :=
  if t1 = 0 ∨ t1 = 1 then (some (t1, M)) else none
def f_X9_isWithin_b14 (M : Mem) : Option (Int × Mem) :=
  f_X9_isWithin_b15 0 M
def f_X9_isWithin (v0 : Int) (v1 : Int) (v2 : Int) (M : Mem) : Option (Int × Mem) :=
  if inR v0 then (if inR v1 then (if v0 < v1 then (f_X9_isWithin_b14 M) else (if inR v2 then (if v2 < v0 then (f_X9_isWithin_b14 M) else (f_X9_isWithin_b15 1 M)) else none)) else none) else none
def f_X9_copyRow (a0 : Nat) (n0 : Nat) (a1 : Nat) (n1 : Nat) (M : Mem) : Option (Int × Mem) :=
  if inR ((n0 : Nat) : Int) then (if inR ((n1 : Nat) : Int) then (if (0 ≤ (0 : Int) ∧ 0 ≤ (0 : Int) ∧ 0 ≤ (imin ((n0 : Nat) : Int) ((n1 : Nat) : Int))) ∧ (0 : Int) + (imin ((n0 : Nat) : Int) ((n1 : Nat) : Int)) ≤ (n0 : Int) ∧ (0 : Int) + (imin ((n0 : Nat) : Int) ((n1 : Nat) : Int)) ≤ (n1 : Int) then (zlt (cpM M a0 0 a1 0 (imin ((n0 : Nat) : Int) ((n1 : Nat) : Int))) fun M4 => some (0, M4)) else none) else none) else none
def f_X0_copyFrom (k : Nat) (k1 : Nat) (M : Mem) : Option (Int × Mem) :=
  zbnd (f_X9_copyRow (k1 + 1) 16 (k + 1) 16 M) fun r3 M4 => zbnd (f_X9_copyRow (k1 + 2) 16 (k + 2) 16 M4) fun r8 M9 => zbnd (f_X9_copyRow (k1 + 3) 16 (k + 3) 16 M9) fun r13 M14 => zbnd (f_X9_copyRow (k1 + 4) 256 (k + 4) 256 M14) fun r18 M19 => some (0, M19)
def f_X2_copyFrom_b65 (k : Nat) (k1 : Nat) : Nat → Int → Mem → Option (Int × Mem)
  | 0, _, _ => none
  | n + 1, v2, M => if inR v2 then (if 8 ≤ v2 then (some (0, M)) else (if 0 ≤ v2 ∧ v2 < 8 then (if (M (k1 + 5) v2.toNat) = 0 ∨ (M (k1 + 5) v2.toNat) = 1 then (zlt (wr M (k + 5) v2.toNat (M (k1 + 5) v2.toNat)) fun M32 => f_X2_copyFrom_b65 k k1 n (v2 + 1) M32) else none) else none)) else none
def f_X2_copyFrom (k : Nat) (k1 : Nat) (M : Mem) : Option (Int × Mem) :=
  zlt (wr M k 0 (M k1 0)) fun M1 => zbnd (f_X9_copyRow (k1 + 1) 8 (k + 1) 8 M1) fun r4 M5 => zbnd (f_X9_copyRow (k1 + 2) 8 (k + 2) 8 M5) fun r9 M10 => zbnd (f_X9_copyRow (k1 + 3) 8 (k + 3) 8 M10) fun r14 M15 => zbnd (f_X9_copyRow (k1 + 4) 8 (k + 4) 8 M15) fun r19 M20 => zbnd (f_X9_copyRow (k1 + 6) 128 (k + 6) 128 M20) fun r24 M25 => f_X2_copyFrom_b65 k k1 100000 0 M25
def f_X3_copyFrom (k : Nat) (k1 : Nat) (M : Mem) : Option (Int × Mem) :=
  zlt (wr M k 0 (M k1 0)) fun M1 => zbnd (f_X9_copyRow (k1 + 1) 3 (k + 1) 3 M1) fun r4 M5 => zbnd (f_X9_copyRow (k1 + 2) 3 (k + 2) 3 M5) fun r9 M10 => some (0, M10)
def f_X4_copyFrom (k : Nat) (k1 : Nat) (M : Mem) : Option (Int × Mem) :=
  zlt (wr M k 0 (M k1 0)) fun M1 => zbnd (f_X9_copyRow (k1 + 1) 6 (k + 1) 6 M1) fun r4 M5 => zbnd (f_X9_copyRow (k1 + 2) 6 (k + 2) 6 M5) fun r9 M10 => zbnd (f_X9_copyRow (k1 + 3) 6 (k + 3) 6 M10) fun r14 M15 => zbnd (f_X9_copyRow (k1 + 4) 6 (k + 4) 6 M15) fun r19 M20 => zbnd (f_X9_copyRow (k1 + 5) 6 (k + 5) 6 M20) fun r24 M25 => zbnd (f_X9_copyRow (k1 + 6) 96 (k + 6) 96 M25) fun r29 M30 => some (0, M30)
def f_X8_copyFrom (k : Nat) (k1 : Nat) (M : Mem) : Option (Int × Mem) :=
  zbnd (f_X9_copyRow (k1 + 1) 128 (k + 1) 128 M) fun r3 M4 => zbnd (f_X9_copyRow (k1 + 2) 128 (k + 2) 128 M4) fun r8 M9 => some (0, M9)
def f_X7_copyFrom (k : Nat) (k1 : Nat) (M : Mem) : Option (Int × Mem) :=
  zlt (wr M k 0 (M k1 0)) fun M1 => zlt (wr M1 k 1 (M1 k1 1)) fun M2 => zlt (wr M2 k 2 (M2 k1 2)) fun M3 => zbnd (f_X9_copyRow (k1 + 1) 6 (k + 1) 6 M3) fun r6 M7 => zbnd (f_X9_copyRow (k1 + 2) 4 (k + 2) 4 M7) fun r11 M12 => zbnd (f_X2_copyFrom (k + 3) (k1 + 3) M12) fun r16 M17 => zbnd (f_X8_copyFrom (k + 10) (k1 + 10) M17) fun r21 M22 => zbnd (f_X0_copyFrom (k + 13) (k1 + 13) M22) fun r26 M27 => zbnd (f_X3_copyFrom (k + 18) (k1 + 18) M27) fun r31 M32 => zbnd (f_X4_copyFrom (k + 21) (k1 + 21) M32) fun r36 M37 => some (0, M37)
def f_X1_store_b53 (k1 : Nat) (M : Mem) : Option (Int × Mem) :=
  some (0, M)
def f_X1_store (k1 : Nat) (M : Mem) : Option (Int × Mem) :=
  if inR ((M 88 1) + (M 88 0)) then (if 0 ≤ (((M 88 1) + (M 88 0)).tmod 4) ∧ (((M 88 1) + (M 88 0)).tmod 4) < 4 then (zbnd (f_X7_copyFrom (90 + 29 * (((M 88 1) + (M 88 0)).tmod 4).toNat) k1 M) fun r3 M4 => if inR (M4 88 0) then (if 4 ≤ (M4 88 0) then (if inR ((M4 88 1) + 1) then (zlt (wr M4 88 1 (((M4 88 1) + 1).tmod 4)) fun M8 => f_X1_store_b53 k1 M8) else none) else (zlt (wr M4 88 0 ((M4 88 0) + 1)) fun M9 => f_X1_store_b53 k1 M9)) else none) else none) else none
def f_X2_found (k : Nat) (v1 : Int) (v2 : Int) (v3 : Int) (M : Mem) : Option (Int × Mem) :=
  zlt (M k 0) fun x1 => if 0 ≤ x1 ∧ x1 < 8 then (zlt (wr M (k + 1) x1.toNat v1) fun M4 => zlt (wr M4 (k + 2) x1.toNat v2) fun M6 => if v3 = 0 ∨ v3 = 1 then (zlt (wr M6 (k + 5) x1.toNat v3) fun M9 => zlt (wr M9 k 0 ((M9 k 0) + 1)) fun M10 => some (x1, M10)) else none) else none
def f_X9_addPasture_b20 (M : Mem) : Option (Int × Mem) :=
  some ((-2), M)
def f_X9_addPasture (v1 : Int) (v2 : Int) (v3 : Int) (M : Mem) : Option (Int × Mem) :=
  zbnd (f_X9_isWithin v1 0 90 M) fun r1 M2 => if inR r1 then (if r1 = 0 then (f_X9_addPasture_b20 M2) else (zbnd (f_X9_isWithin v2 1 16 M2) fun r5 M6 => if inR r5 then (if r5 = 0 then (f_X9_addPasture_b20 M6) else (if inR (M6 4 0) then (if (M6 4 0) < 8 then (zbnd (f_X1_store 1 M6) fun r10 M11 => zbnd (f_X2_found 4 v1 v2 v3 M11) fun r13 M14 => some (r13, M14)) else (some ((-3), M6))) else none)) else none)) else none
def f_X9_isPasture (v1 : Int) (M : Mem) : Option (Int × Mem) :=
  zbnd (f_X9_isWithin v1 0 ((M 4 0) - 1) M) fun r1 M2 => if r1 = 0 ∨ r1 = 1 then (some (r1, M2)) else none
def f_X9_cell (v0 : Int) (v1 : Int) (M : Mem) : Option (Int × Mem) :=
  some ((v0 * 16) + v1, M)
def f_X4_join_b14 (k : Nat) : Nat → Int → Int → Int → Mem → Option (Int × Mem)
  | 0, _, _, _, _ => none
  | n + 1, v1, v2, v3, M => if inR v3 then (if 16 ≤ v3 then (zlt (wr M k 0 ((M k 0) + 1)) fun M6 => some (v2, M6)) else (zbnd (f_X9_cell v2 v3 M) fun r8 M9 => if 0 ≤ r8 ∧ r8 < 96 then (zlt (wr M9 (k + 6) r8.toNat v1) fun M12 => f_X4_join_b14 k n v1 v2 (v3 + 1) M12) else none)) else none
def f_X4_join (k : Nat) (v1 : Int) (M : Mem) : Option (Int × Mem) :=
  zlt (M k 0) fun x1 => if 0 ≤ x1 ∧ x1 < 6 then (zlt (wr M (k + 1) x1.toNat v1) fun M4 => f_X4_join_b14 k 100000 v1 x1 0 M4) else none
def f_X9_addReader (v1 : Int) (M : Mem) : Option (Int × Mem) :=
  zbnd (f_X9_isPasture v1 M) fun r1 M2 => if inR r1 then (if r1 = 0 then (some ((-1), M2)) else (if inR (M2 22 0) then (if (M2 22 0) < 6 then (zbnd (f_X1_store 1 M2) fun r6 M7 => zbnd (f_X4_join 22 v1 M7) fun r9 M10 => some (r9, M10)) else (some ((-3), M2))) else none)) else none
def f_X3_join (k : Nat) (v1 : Int) (v2 : Int) (M : Mem) : Option (Int × Mem) :=
  zlt (M k 0) fun x1 => if 0 ≤ x1 ∧ x1 < 3 then (zlt (wr M (k + 1) x1.toNat v1) fun M4 => zlt (wr M4 (k + 2) x1.toNat v2) fun M6 => zlt (wr M6 k 0 ((M6 k 0) + 1)) fun M7 => some (x1, M7)) else none
def f_X9_addWolf (v1 : Int) (v2 : Int) (M : Mem) : Option (Int × Mem) :=
  zbnd (f_X9_isPasture v1 M) fun r1 M2 => if inR r1 then (if r1 = 0 then (some ((-1), M2)) else (zbnd (f_X9_isWithin v2 1 7 M2) fun r5 M6 => if inR r5 then (if r5 = 0 then (some ((-2), M6)) else (if inR (M6 19 0) then (if (M6 19 0) < 3 then (zbnd (f_X1_store 1 M6) fun r10 M11 => zbnd (f_X3_join 19 v1 v2 M11) fun r13 M14 => some (r13, M14)) else (some ((-3), M6))) else none)) else none)) else none
def f_X9_sum_b27 (a0 : Nat) (n0 : Nat) (v2 : Int) (M : Mem) : Option (Int × Mem) :=
  some (v2, M)
def f_X9_sum_b4 (a0 : Nat) (n0 : Nat) : Nat → Int → Int → Int → Mem → Option (Int × Mem)
  | 0, _, _, _, _ => none
  | n + 1, v1, v2, v3, M => if inR v3 then (if inR v1 then (if v1 ≤ v3 then (f_X9_sum_b27 a0 n0 v2 M) else (if inR ((n0 : Nat) : Int) then (if ((n0 : Nat) : Int) ≤ v3 then (f_X9_sum_b27 a0 n0 v2 M) else (if 0 ≤ v3 ∧ v3 < (n0 : Int) then (zlt (v2 + (M a0 v3.toNat)) fun x5 => f_X9_sum_b4 a0 n0 n v1 x5 (v3 + 1) M) else none)) else none)) else none) else none
def f_X9_sum (a0 : Nat) (n0 : Nat) (v1 : Int) (M : Mem) : Option (Int × Mem) :=
  f_X9_sum_b4 a0 n0 100000 v1 0 0 M
def f_X2_inns_b24 (g4 : Int → Int → Mem → Option (Int × Mem)) (k : Nat) (v1 : Int) (v2 : Int) (M : Mem) : Option (Int × Mem) :=
  g4 v1 (v2 + 1) M
def f_X2_inns_b4 (k : Nat) : Nat → Int → Int → Mem → Option (Int × Mem)
  | 0, _, _, _ => none
  | n + 1, v1, v2, M => if inR v2 then (if inR (M k 0) then (if (M k 0) ≤ v2 then (some (v1, M)) else (if 0 ≤ v2 ∧ v2 < 8 then (if inR (M (k + 5) v2.toNat) then (if (M (k + 5) v2.toNat) = 0 then (f_X2_inns_b24 (f_X2_inns_b4 k n) k v1 v2 M) else (f_X2_inns_b24 (f_X2_inns_b4 k n) k (v1 + 1) v2 M)) else none) else none)) else none) else none
def f_X2_inns (k : Nat) (M : Mem) : Option (Int × Mem) :=
  f_X2_inns_b4 k 100000 0 0 M
def f_X7_season_b23 (k : Nat) (t1 : Int) (M : Mem) : Option (Int × Mem) :=
  some (t1, M)
def f_X7_season (k : Nat) (M : Mem) : Option (Int × Mem) :=
  zlt (M (k + 1) 0) fun x2 => if inR x2 then (if x2 ≤ 0 then (f_X7_season_b23 k 0 M) else (if inR (M k 0) then (if x2 ≠ 0 then (if inR ((M k 0).tdiv x2) then (f_X7_season_b23 k (((M k 0).tdiv x2).tmod 4) M) else none) else none) else none)) else none
def f_X7_seasonLatitude (k : Nat) (M : Mem) : Option (Int × Mem) :=
  zbnd (f_X7_season k M) fun r2 M3 => if 0 ≤ r2 ∧ r2 < 4 then (some (M3 (k + 2) r2.toNat, M3)) else none
def f_X8_isAt_b20 (k : Nat) (t1 : Int) (M : Mem) : Option (Int × Mem) :=
  if t1 = 0 ∨ t1 = 1 then (some (t1, M)) else none
def f_X8_isAt (k : Nat) (v1 : Int) (v2 : Int) (M : Mem) : Option (Int × Mem) :=
  zbnd (f_X9_cell v1 v2 M) fun r2 M3 => if 0 ≤ r2 ∧ r2 < 128 then (if inR (M3 (k + 1) r2.toNat) then (if (M3 (k + 1) r2.toNat) = (-5) then (f_X8_isAt_b20 k 0 M3) else (f_X8_isAt_b20 k 1 M3)) else none) else none
def f_X8_countIn_b22 (g4 : Int → Int → Int → Mem → Option (Int × Mem)) (k : Nat) (v1 : Int) (v2 : Int) (v3 : Int) (M : Mem) : Option (Int × Mem) :=
  g4 v1 v2 (v3 + 1) M
def f_X8_countIn_b4 (k : Nat) : Nat → Int → Int → Int → Mem → Option (Int × Mem)
  | 0, _, _, _, _ => none
  | n + 1, v1, v2, v3, M => if inR v3 then (if 16 ≤ v3 then (some (v2, M)) else (zbnd (f_X8_isAt k v1 v3 M) fun r2 M3 => if inR r2 then (if r2 = 0 then (f_X8_countIn_b22 (f_X8_countIn_b4 k n) k v1 v2 v3 M3) else (f_X8_countIn_b22 (f_X8_countIn_b4 k n) k v1 (v2 + 1) v3 M3)) else none)) else none
def f_X8_countIn (k : Nat) (v1 : Int) (M : Mem) : Option (Int × Mem) :=
  f_X8_countIn_b4 k 100000 v1 0 0 M
def f_X8_countAll_b4 (k : Nat) : Nat → Int → Int → Mem → Option (Int × Mem)
  | 0, _, _, _ => none
  | n + 1, v1, v2, M => if inR v2 then (if 8 ≤ v2 then (some (v1, M)) else (zbnd (f_X8_countIn k v2 M) fun r2 M3 => zlt (v1 + r2) fun x5 => f_X8_countAll_b4 k n x5 (v2 + 1) M3)) else none
def f_X8_countAll (k : Nat) (M : Mem) : Option (Int × Mem) :=
  f_X8_countAll_b4 k 100000 0 0 M
def f_X9_count (v1 : Int) (M : Mem) : Option (Int × Mem) :=
  if inR v1 then (if v1 = 0 then (some (M 1 0, M)) else if v1 = 1 then (zbnd (f_X7_season 1 M) fun r3 M4 => some (r3, M4)) else if v1 = 2 then (zbnd (f_X7_seasonLatitude 1 M) fun r7 M8 => some (r7, M8)) else if v1 = 3 then (some (M 4 0, M)) else if v1 = 4 then (zbnd (f_X2_inns 4 M) fun r12 M13 => some (r12, M13)) else if v1 = 5 then (some (M 19 0, M)) else if v1 = 6 then (some (M 22 0, M)) else if v1 = 7 then (zbnd (f_X8_countAll 11 M) fun r18 M19 => some (r18, M19)) else if v1 = 8 then (zbnd (f_X9_sum 17 16 16 M) fun r22 M23 => some (r22, M23)) else if v1 = 9 then (some (M 1 1, M)) else if v1 = 10 then (some (M 1 2, M)) else if v1 = 11 then (zbnd (f_X9_sum 24 6 (M 22 0) M) fun r28 M29 => some (r28, M29)) else if v1 = 12 then (zbnd (f_X9_sum 26 6 (M 22 0) M) fun r32 M33 => some (r32, M33)) else if v1 = 13 then (some (M 88 0, M)) else if v1 = 14 then (some (M 210 0, M)) else (some ((-2), M))) else none
def f_X8_removeLeftUntil_b53 (g5 : Int → Int → Int → Int → Mem → Option (Int × Mem)) (k : Nat) (v1 : Int) (v2 : Int) (v3 : Int) (v4 : Int) (M : Mem) : Option (Int × Mem) :=
  g5 v1 v2 v3 (v4 + 1) M
def f_X8_removeLeftUntil_b5 (k : Nat) : Nat → Int → Int → Int → Int → Mem → Option (Int × Mem)
  | 0, _, _, _, _, _ => none
  | n + 1, v1, v2, v3, v4, M => if inR v4 then (if 16 ≤ v4 then (some (v3, M)) else (zbnd (f_X8_isAt k v2 v4 M) fun r2 M3 => if inR r2 then (if r2 = 0 then (f_X8_removeLeftUntil_b53 (f_X8_removeLeftUntil_b5 k n) k v1 v2 v3 v4 M3) else (zbnd (f_X9_cell v2 v4 M3) fun r7 M8 => if 0 ≤ r7 ∧ r7 < 128 then (if inR (M8 (k + 2) r7.toNat) then (if inR v1 then (if v1 < (M8 (k + 2) r7.toNat) then (f_X8_removeLeftUntil_b53 (f_X8_removeLeftUntil_b5 k n) k v1 v2 v3 v4 M8) else (zbnd (f_X9_cell v2 v4 M8) fun r14 M15 => if 0 ≤ r14 ∧ r14 < 128 then (zlt (wr M15 (k + 1) r14.toNat (-5)) fun M18 => f_X8_removeLeftUntil_b53 (f_X8_removeLeftUntil_b5 k n) k v1 v2 (v3 + 1) v4 M18) else none)) else none) else none) else none)) else none)) else none
def f_X8_removeLeftUntil (k : Nat) (v1 : Int) (v2 : Int) (M : Mem) : Option (Int × Mem) :=
  f_X8_removeLeftUntil_b5 k 100000 v1 v2 0 0 M
def f_X7_letWolfCut_b38 (k : Nat) (t1 : Int) (M : Mem) : Option (Int × Mem) :=
  zlt (wr M k 1 ((M k 1) + t1)) fun M14 => some (t1, M14)
def f_X7_letWolfCut (k : Nat) (v1 : Int) (M : Mem) : Option (Int × Mem) :=
  if 0 ≤ v1 ∧ v1 < 3 then (zlt (M (k + 19) v1.toNat) fun x4 => if 0 ≤ x4 ∧ x4 < 8 then (if inR (M (k + 8) x4.toNat) then (if (M (k + 8) x4.toNat) = 0 then (zbnd (f_X8_removeLeftUntil (k + 10) (M k 0) x4 M) fun r10 M11 => f_X7_letWolfCut_b38 k r10 M11) else (f_X7_letWolfCut_b38 k 0 M)) else none) else none) else none
def f_X7_tracksInReach_b34 (k : Nat) (t1 : Int) (M : Mem) : Option (Int × Mem) :=
  some (t1, M)
def f_X7_tracksInReach (k : Nat) (v1 : Int) (M : Mem) : Option (Int × Mem) :=
  if 0 ≤ v1 ∧ v1 < 3 then (zlt (M (k + 19) v1.toNat) fun x4 => if 0 ≤ x4 ∧ x4 < 8 then (if inR (M (k + 8) x4.toNat) then (if (M (k + 8) x4.toNat) = 0 then (zbnd (f_X8_countIn (k + 10) x4 M) fun r10 M11 => f_X7_tracksInReach_b34 k r10 M11) else (f_X7_tracksInReach_b34 k 0 M)) else none) else none) else none
def f_X9_cut (v1 : Int) (M : Mem) : Option (Int × Mem) :=
  zbnd (f_X9_isWithin v1 0 ((M 19 0) - 1) M) fun r1 M2 => if inR r1 then (if r1 = 0 then (some ((-1), M2)) else (zbnd (f_X7_tracksInReach 1 v1 M2) fun r5 M6 => if inR r5 then (if 1 ≤ r5 then (zbnd (f_X1_store 1 M6) fun r9 M10 => zbnd (f_X7_letWolfCut 1 v1 M10) fun r12 M13 => some (r12, M13)) else (some ((-5), M6))) else none)) else none
def f_X9_driveWolf (M : Mem) : Option (Int × Mem) :=
  if inR (M 19 0) then (if 1 ≤ (M 19 0) then (zbnd (f_X1_store 1 M) fun r2 M3 => zlt (wr M3 19 0 ((M3 19 0) - 1)) fun M5 => some (M5 19 0, M5)) else (some ((-5), M))) else none
def f_X9_isKey (v0 : Int) (M : Mem) : Option (Int × Mem) :=
  zbnd (f_X9_isWithin v0 0 255 M) fun r1 M2 => if r1 = 0 ∨ r1 = 1 then (some (r1, M2)) else none
def f_X9_isReader (v1 : Int) (M : Mem) : Option (Int × Mem) :=
  zbnd (f_X9_isWithin v1 0 ((M 22 0) - 1) M) fun r1 M2 => if r1 = 0 ∨ r1 = 1 then (some (r1, M2)) else none
def f_X9_isShard (v0 : Int) (M : Mem) : Option (Int × Mem) :=
  zbnd (f_X9_isWithin v0 0 15 M) fun r1 M2 => if r1 = 0 ∨ r1 = 1 then (some (r1, M2)) else none
def f_X9_keep (M : Mem) : Option (Int × Mem) :=
  zbnd (f_X7_copyFrom 59 1 M) fun r1 M2 => zlt (wr M2 0 6 1) fun M4 => some (M4 1 0, M4)
def f_X2_hasRoom_b20 (k : Nat) (t1 : Int) (M : Mem) : Option (Int × Mem) :=
  if t1 = 0 ∨ t1 = 1 then (some (t1, M)) else none
def f_X2_hasRoom (k : Nat) (v1 : Int) (M : Mem) : Option (Int × Mem) :=
  if 0 ≤ v1 ∧ v1 < 8 then (if inR (M (k + 3) v1.toNat) then (if inR (M (k + 2) v1.toNat) then (if (M (k + 2) v1.toNat) ≤ (M (k + 3) v1.toNat) then (f_X2_hasRoom_b20 k 0 M) else (f_X2_hasRoom_b20 k 1 M)) else none) else none) else none
def f_X8_leave (k : Nat) (v1 : Int) (v2 : Int) (v3 : Int) (v4 : Int) (M : Mem) : Option (Int × Mem) :=
  zbnd (f_X9_cell v2 v1 M) fun r2 M3 => if 0 ≤ r2 ∧ r2 < 128 then (zlt (wr M3 (k + 1) r2.toNat v3) fun M6 => zbnd (f_X9_cell v2 v1 M6) fun r8 M9 => if 0 ≤ r8 ∧ r8 < 128 then (zlt (wr M9 (k + 2) r8.toNat v4) fun M12 => zbnd (f_X9_cell v3 v1 M12) fun r13 M14 => if 0 ≤ r13 ∧ r13 < 128 then (zlt (wr M14 (k + 1) r13.toNat (-5)) fun M17 => some (0, M17)) else none) else none) else none
def f_X7_drive (k : Nat) (v1 : Int) (v2 : Int) (M : Mem) : Option (Int × Mem) :=
  if 0 ≤ v1 ∧ v1 < 16 then (zlt (M (k + 14) v1.toNat) fun x4 => zbnd (f_X8_leave (k + 10) v1 x4 v2 (M k 0) M) fun r6 M7 => zlt (wr M7 (k + 14) v1.toNat v2) fun M9 => zlt (wr M9 (k + 16) v1.toNat ((M9 (k + 16) v1.toNat) + 1)) fun M11 => if 0 ≤ x4 ∧ x4 < 8 then (zlt (wr M11 (k + 6) x4.toNat ((M11 (k + 6) x4.toNat) - 1)) fun M15 => if 0 ≤ v2 ∧ v2 < 8 then (zlt (wr M15 (k + 6) v2.toNat ((M15 (k + 6) v2.toNat) + 1)) fun M17 => some (0, M17)) else none) else none) else none
def f_X9_move_b15 (M : Mem) : Option (Int × Mem) :=
  some ((-1), M)
def f_X9_move (v1 : Int) (v2 : Int) (M : Mem) : Option (Int × Mem) :=
  zbnd (f_X9_isShard v1 M) fun r1 M2 => if inR r1 then (if r1 = 0 then (f_X9_move_b15 M2) else (zbnd (f_X9_isPasture v2 M2) fun r5 M6 => if inR r5 then (if r5 = 0 then (f_X9_move_b15 M6) else (if 0 ≤ v1 ∧ v1 < 16 then (zlt (M6 15 v1.toNat) fun x10 => if inR x10 then (if inR v2 then (if x10 = v2 then (some ((-5), M6)) else (zbnd (f_X2_hasRoom 4 v2 M6) fun r13 M14 => if inR r13 then (if r13 = 0 then (some ((-3), M14)) else (zbnd (f_X1_store 1 M14) fun r17 M18 => zbnd (f_X7_drive 1 v1 v2 M18) fun r20 M21 => some (x10, M21))) else none)) else none) else none) else none)) else none)) else none
def f_X0_cool_b2 (k : Nat) : Nat → Int → Mem → Option (Int × Mem)
  | 0, _, _ => none
  | n + 1, v1, M => if inR v1 then (if 16 ≤ v1 then (some (0, M)) else (if 0 ≤ v1 ∧ v1 < 16 then (if inR ((M (k + 2) v1.toNat) * 3) then (zlt (wr M (k + 2) v1.toNat (((M (k + 2) v1.toNat) * 3).tdiv 4)) fun M5 => f_X0_cool_b2 k n (v1 + 1) M5) else none) else none)) else none
def f_X0_cool (k : Nat) (M : Mem) : Option (Int × Mem) :=
  f_X0_cool_b2 k 100000 0 M
def f_X0_isAskedBefore_b40 (k : Nat) (t1 : Int) (M : Mem) : Option (Int × Mem) :=
  if t1 = 0 ∨ t1 = 1 then (some (t1, M)) else none
def f_X0_isAskedBefore_b35 (k : Nat) (M : Mem) : Option (Int × Mem) :=
  f_X0_isAskedBefore_b40 k 1 M
def f_X0_isAskedBefore_b39 (k : Nat) (M : Mem) : Option (Int × Mem) :=
  f_X0_isAskedBefore_b40 k 0 M
def f_X0_isAskedBefore (k : Nat) (v1 : Int) (v2 : Int) (M : Mem) : Option (Int × Mem) :=
  if 0 ≤ v1 ∧ v1 < 16 then (if 0 ≤ v2 ∧ v2 < 16 then (if inR (M (k + 2) v1.toNat) then (if inR (M (k + 2) v2.toNat) then (if (M (k + 2) v2.toNat) < (M (k + 2) v1.toNat) then (f_X0_isAskedBefore_b35 k M) else (if (M (k + 2) v1.toNat) = (M (k + 2) v2.toNat) then (if inR v1 then (if inR v2 then (if v2 ≤ v1 then (f_X0_isAskedBefore_b39 k M) else (f_X0_isAskedBefore_b35 k M)) else none) else none) else (f_X0_isAskedBefore_b39 k M))) else none) else none) else none) else none
def f_X0_sortByHeat_b41 (g2 : Int → Mem → Option (Int × Mem)) (k : Nat) (a1 : Nat) (n1 : Nat) (v2 : Int) (v3 : Int) (M : Mem) : Option (Int × Mem) :=
  if 0 ≤ v3 ∧ v3 < (n1 : Int) then (zlt (wr M a1 v3.toNat v2) fun M14 => g2 (v2 + 1) M14) else none
def f_X0_sortByHeat_b10 (g2 : Int → Mem → Option (Int × Mem)) (k : Nat) (a1 : Nat) (n1 : Nat) : Nat → Int → Int → Mem → Option (Int × Mem)
  | 0, _, _, _ => none
  | n + 1, v2, v3, M => if inR v3 then (if v3 ≤ 0 then (f_X0_sortByHeat_b41 g2 k a1 n1 v2 v3 M) else (if 0 ≤ (v3 - 1) ∧ (v3 - 1) < (n1 : Int) then (zbnd (f_X0_isAskedBefore k v2 (M a1 (v3 - 1).toNat) M) fun r5 M6 => if inR r5 then (if r5 = 0 then (f_X0_sortByHeat_b41 g2 k a1 n1 v2 v3 M6) else (if 0 ≤ v3 ∧ v3 < (n1 : Int) then (zlt (wr M6 a1 v3.toNat (M6 a1 (v3 - 1).toNat)) fun M10 => f_X0_sortByHeat_b10 g2 k a1 n1 n v2 (v3 + (-1)) M10) else none)) else none) else none)) else none
def f_X0_sortByHeat_b2 (k : Nat) (a1 : Nat) (n1 : Nat) : Nat → Int → Mem → Option (Int × Mem)
  | 0, _, _ => none
  | n + 1, v2, M => if inR v2 then (if 16 ≤ v2 then (some (0, M)) else (f_X0_sortByHeat_b10 (f_X0_sortByHeat_b2 k a1 n1 n) k a1 n1 100000 v2 v2 M)) else none
def f_X0_sortByHeat (k : Nat) (a1 : Nat) (n1 : Nat) (M : Mem) : Option (Int × Mem) :=
  f_X0_sortByHeat_b2 k a1 n1 100000 0 M
def f_X2_distance (k : Nat) (v1 : Int) (v2 : Int) (M : Mem) : Option (Int × Mem) :=
  if 0 ≤ v1 ∧ v1 < 8 then (if inR ((M (k + 1) v1.toNat) - v2) then (some (iabs ((M (k + 1) v1.toNat) - v2), M)) else none) else none
def f_X2_bestOther_b58 (g10 : Int → Int → Int → Int → Int → Mem → Option (Int × Mem)) (k : Nat) (v1 : Int) (v2 : Int) (v3 : Int) (v4 : Int) (v5 : Int) (M : Mem) : Option (Int × Mem) :=
  g10 v1 v2 v3 v4 (v5 + 1) M
def f_X2_bestOther_b10 (k : Nat) : Nat → Int → Int → Int → Int → Int → Mem → Option (Int × Mem)
  | 0, _, _, _, _, _, _ => none
  | n + 1, v1, v2, v3, v4, v5, M => if inR v5 then (if inR (M k 0) then (if (M k 0) ≤ v5 then (some (v3, M)) else (if inR v1 then (if v5 = v1 then (f_X2_bestOther_b58 (f_X2_bestOther_b10 k n) k v1 v2 v3 v4 v5 M) else (zbnd (f_X2_hasRoom k v5 M) fun r4 M5 => if inR r4 then (if r4 = 0 then (f_X2_bestOther_b58 (f_X2_bestOther_b10 k n) k v1 v2 v3 v4 v5 M5) else (zbnd (f_X2_distance k v5 v2 M5) fun r8 M9 => if inR r8 then (if inR v4 then (if v4 ≤ r8 then (f_X2_bestOther_b58 (f_X2_bestOther_b10 k n) k v1 v2 v3 v4 v5 M9) else (zbnd (f_X2_distance k v5 v2 M9) fun r13 M14 => f_X2_bestOther_b58 (f_X2_bestOther_b10 k n) k v1 v2 v5 r13 v5 M14)) else none) else none)) else none)) else none)) else none) else none
def f_X2_bestOther (k : Nat) (v1 : Int) (v2 : Int) (M : Mem) : Option (Int × Mem) :=
  f_X2_bestOther_b10 k 100000 v1 v2 (-5) 91 0 M
def f_X7_driveHerd_b116 (g20 : Int → Int → Int → Mem → Option (Int × Mem)) (k : Nat) (v1 : Int) (v2 : Int) (v3 : Int) (M : Mem) : Option (Int × Mem) :=
  g20 v1 v2 (v3 + 1) M
def f_X7_driveHerd_b122 (k : Nat) (v1 : Int) (M : Mem) : Option (Int × Mem) :=
  some (v1, M)
def f_X7_driveHerd_b20 (k : Nat) : Nat → Int → Int → Int → Mem → Option (Int × Mem)
  | 0, _, _, _, _ => none
  | n + 1, v1, v2, v3, M => if inR v3 then (if 16 ≤ v3 then (f_X7_driveHerd_b122 k v1 M) else (if inR v1 then (if inR (M (k + 1) 3) then (if (M (k + 1) 3) ≤ v1 then (f_X7_driveHerd_b122 k v1 M) else (if 0 ≤ v3 ∧ v3 < 16 then (zlt (M (k + 28) v3.toNat) fun x15 => if 0 ≤ x15 ∧ x15 < 16 then (zlt (M (k + 14) x15.toNat) fun x19 => zbnd (f_X2_bestOther (k + 3) x19 v2 M) fun r21 M22 => if inR r21 then (if r21 = (-5) then (f_X7_driveHerd_b116 (f_X7_driveHerd_b20 k n) k v1 v2 v3 M22) else (zbnd (f_X2_distance (k + 3) x19 v2 M22) fun r25 M26 => zbnd (f_X2_distance (k + 3) r21 v2 M26) fun r28 M29 => if inR (r25 - r28) then (if inR (M29 (k + 1) 2) then (if (r25 - r28) < (M29 (k + 1) 2) then (f_X7_driveHerd_b116 (f_X7_driveHerd_b20 k n) k v1 v2 v3 M29) else (zbnd (f_X7_drive k x15 r21 M29) fun r33 M34 => f_X7_driveHerd_b116 (f_X7_driveHerd_b20 k n) k (v1 + 1) v2 v3 M34)) else none) else none)) else none) else none) else none)) else none) else none)) else none
def f_X7_driveHerd (k : Nat) (M : Mem) : Option (Int × Mem) :=
  zbnd (f_X7_seasonLatitude k M) fun r1 M2 => zbnd (f_X0_sortByHeat (k + 13) (k + 28) 16 M2) fun r6 M7 => f_X7_driveHerd_b20 k 100000 0 r1 0 M7
def f_X7_passDayOfHerd (k : Nat) (M : Mem) : Option (Int × Mem) :=
  zbnd (f_X0_cool (k + 13) M) fun r2 M3 => zbnd (f_X7_driveHerd k M3) fun r5 M6 => zlt (wr M6 k 0 ((M6 k 0) + 1)) fun M8 => some (0, M8)
def f_X9_movesIn_b35 : Nat → Int → Int → Int → Mem → Option (Int × Mem)
  | 0, _, _, _, _ => none
  | n + 1, v1, v2, v3, M => if inR v3 then (if 60 < v3 then (some ((-5), M)) else (zbnd (f_X7_passDayOfHerd 30 M) fun r12 M13 => if 0 ≤ v1 ∧ v1 < 16 then (if inR (M13 46 v1.toNat) then (if inR v2 then (if (M13 46 v1.toNat) = v2 then (f_X9_movesIn_b35 n v1 v2 (v3 + 1) M13) else (some (v3, M13))) else none) else none) else none)) else none
def f_X9_movesIn (v1 : Int) (M : Mem) : Option (Int × Mem) :=
  zbnd (f_X9_isShard v1 M) fun r1 M2 => if inR r1 then (if r1 = 0 then (some ((-1), M2)) else (zbnd (f_X7_copyFrom 30 1 M2) fun r5 M6 => if 0 ≤ v1 ∧ v1 < 16 then (zlt (M6 46 v1.toNat) fun x9 => f_X9_movesIn_b35 100000 v1 x9 1 M6) else none)) else none
def f_X2_tellAll_b35 (g2 : Int → Mem → Option (Int × Mem)) (k : Nat) (a1 : Nat) (n1 : Nat) (v2 : Int) (M : Mem) : Option (Int × Mem) :=
  g2 (v2 + 1) M
def f_X2_tellAll_b2 (k : Nat) (a1 : Nat) (n1 : Nat) : Nat → Int → Mem → Option (Int × Mem)
  | 0, _, _ => none
  | n + 1, v2, M => if inR v2 then (if inR (M k 0) then (if (M k 0) ≤ v2 then (some (0, M)) else (if 0 ≤ v2 ∧ v2 < 8 then (if inR (M (k + 5) v2.toNat) then (if (M (k + 5) v2.toNat) = 0 then (f_X2_tellAll_b35 (f_X2_tellAll_b2 k a1 n1 n) k a1 n1 v2 M) else (zbnd (f_X9_cell v2 0 M) fun r7 M8 => if (0 ≤ (0 : Int) ∧ 0 ≤ r7 ∧ 0 ≤ (16 : Int)) ∧ (0 : Int) + (16 : Int) ≤ (n1 : Int) ∧ r7 + (16 : Int) ≤ 128 then (zlt (cpM M8 a1 0 (k + 6) r7 16) fun M11 => f_X2_tellAll_b35 (f_X2_tellAll_b2 k a1 n1 n) k a1 n1 v2 M11) else none)) else none) else none)) else none) else none
def f_X2_tellAll (k : Nat) (a1 : Nat) (n1 : Nat) (M : Mem) : Option (Int × Mem) :=
  f_X2_tellAll_b2 k a1 n1 100000 0 M
def f_X7_letInnsPost (k : Nat) (M : Mem) : Option (Int × Mem) :=
  zbnd (f_X2_tellAll (k + 3) (k + 14) 16 M) fun r4 M5 => some (0, M5)
def f_X7_letInnsPostOnTheirDay_b26 (k : Nat) (M : Mem) : Option (Int × Mem) :=
  some (0, M)
def f_X7_letInnsPostOnTheirDay (k : Nat) (M : Mem) : Option (Int × Mem) :=
  zlt (M (k + 1) 4) fun x2 => if inR x2 then (if x2 ≤ 0 then (f_X7_letInnsPostOnTheirDay_b26 k M) else (if inR ((M k 0) + 1) then (if x2 ≠ 0 then (if inR (((M k 0) + 1).tmod x2) then (if (((M k 0) + 1).tmod x2) = 0 then (zbnd (f_X7_letInnsPost k M) fun r7 M8 => f_X7_letInnsPostOnTheirDay_b26 k M8) else (f_X7_letInnsPostOnTheirDay_b26 k M)) else none) else none) else none)) else none
def f_X7_letTracksGrowOver_b53 (g2 : Int → Mem → Option (Int × Mem)) (k : Nat) (v1 : Int) (M : Mem) : Option (Int × Mem) :=
  g2 (v1 + 1) M
def f_X7_letTracksGrowOver_b2 (k : Nat) : Nat → Int → Mem → Option (Int × Mem)
  | 0, _, _ => none
  | n + 1, v1, M => if inR v1 then (if inR (M (k + 3) 0) then (if (M (k + 3) 0) ≤ v1 then (some (0, M)) else (if 0 ≤ v1 ∧ v1 < 8 then (if inR (M (k + 8) v1.toNat) then (if (M (k + 8) v1.toNat) = 0 then (zbnd (f_X8_removeLeftUntil (k + 10) ((M k 0) - (M (k + 1) 1)) v1 M) fun r9 M10 => zlt (wr M10 k 2 ((M k 2) + r9)) fun M12 => f_X7_letTracksGrowOver_b53 (f_X7_letTracksGrowOver_b2 k n) k v1 M12) else (f_X7_letTracksGrowOver_b53 (f_X7_letTracksGrowOver_b2 k n) k v1 M)) else none) else none)) else none) else none
def f_X7_letTracksGrowOver (k : Nat) (M : Mem) : Option (Int × Mem) :=
  f_X7_letTracksGrowOver_b2 k 100000 0 M
def f_X3_advance_b25 (k : Nat) (M : Mem) : Option (Int × Mem) :=
  some (0, M)
def f_X3_advance (k : Nat) (v1 : Int) (v2 : Int) (M : Mem) : Option (Int × Mem) :=
  if inR v2 then (if v2 ≤ 0 then (f_X3_advance_b25 k M) else (if 0 ≤ v1 ∧ v1 < 3 then (if inR ((M (k + 1) v1.toNat) + (M (k + 2) v1.toNat)) then (if v2 ≠ 0 then (zlt (wr M (k + 1) v1.toNat (((M (k + 1) v1.toNat) + (M (k + 2) v1.toNat)).tmod v2)) fun M7 => f_X3_advance_b25 k M7) else none) else none) else none)) else none
def f_X7_letWolvesGo_b2 (k : Nat) : Nat → Int → Mem → Option (Int × Mem)
  | 0, _, _ => none
  | n + 1, v1, M => if inR v1 then (if inR (M (k + 18) 0) then (if (M (k + 18) 0) ≤ v1 then (some (0, M)) else (zbnd (f_X3_advance (k + 18) v1 (M (k + 3) 0) M) fun r5 M6 => zbnd (f_X7_letWolfCut k v1 M6) fun r8 M9 => f_X7_letWolvesGo_b2 k n (v1 + 1) M9)) else none) else none
def f_X7_letWolvesGo (k : Nat) (M : Mem) : Option (Int × Mem) :=
  f_X7_letWolvesGo_b2 k 100000 0 M
def f_X7_passDay (k : Nat) (M : Mem) : Option (Int × Mem) :=
  zbnd (f_X0_cool (k + 13) M) fun r2 M3 => zbnd (f_X7_letWolvesGo k M3) fun r5 M6 => zbnd (f_X7_letTracksGrowOver k M6) fun r8 M9 => zbnd (f_X7_driveHerd k M9) fun r11 M12 => zbnd (f_X7_letInnsPostOnTheirDay k M12) fun r14 M15 => zlt (wr M15 k 0 ((M15 k 0) + 1)) fun M17 => some (r11, M17)
def f_X9_pass_b46 : Nat → Int → Int → Int → Mem → Option (Int × Mem)
  | 0, _, _, _, _ => none
  | n + 1, v1, v2, v3, M => if inR v3 then (if inR v1 then (if v1 ≤ v3 then (some (v2, M)) else (zbnd (f_X7_passDay 1 M) fun r13 M14 => zlt (v2 + r13) fun x16 => f_X9_pass_b46 n v1 x16 (v3 + 1) M14)) else none) else none
def f_X9_pass (v1 : Int) (M : Mem) : Option (Int × Mem) :=
  zbnd (f_X9_isWithin v1 1 60 M) fun r1 M2 => if inR r1 then (if r1 = 0 then (some ((-2), M2)) else (if inR ((M2 1 0) + v1) then (if ((M2 1 0) + v1) ≤ 9999 then (zbnd (f_X1_store 1 M2) fun r6 M7 => f_X9_pass_b46 100000 v1 0 0 M7) else (some ((-4), M2))) else none)) else none
def f_X0_heatIn_b29 (g4 : Int → Int → Int → Mem → Option (Int × Mem)) (k : Nat) (v1 : Int) (v2 : Int) (v3 : Int) (M : Mem) : Option (Int × Mem) :=
  g4 v1 v2 (v3 + 1) M
def f_X0_heatIn_b4 (k : Nat) : Nat → Int → Int → Int → Mem → Option (Int × Mem)
  | 0, _, _, _, _ => none
  | n + 1, v1, v2, v3, M => if inR v3 then (if 16 ≤ v3 then (some (v2, M)) else (if 0 ≤ v3 ∧ v3 < 16 then (if inR (M (k + 1) v3.toNat) then (if inR v1 then (if (M (k + 1) v3.toNat) = v1 then (zlt (v2 + (M (k + 2) v3.toNat)) fun x7 => f_X0_heatIn_b29 (f_X0_heatIn_b4 k n) k v1 x7 v3 M) else (f_X0_heatIn_b29 (f_X0_heatIn_b4 k n) k v1 v2 v3 M)) else none) else none) else none)) else none
def f_X0_heatIn (k : Nat) (v1 : Int) (M : Mem) : Option (Int × Mem) :=
  f_X0_heatIn_b4 k 100000 v1 0 0 M
def f_X3_countIn_b25 (g4 : Int → Int → Int → Mem → Option (Int × Mem)) (k : Nat) (v1 : Int) (v2 : Int) (v3 : Int) (M : Mem) : Option (Int × Mem) :=
  g4 v1 v2 (v3 + 1) M
def f_X3_countIn_b4 (k : Nat) : Nat → Int → Int → Int → Mem → Option (Int × Mem)
  | 0, _, _, _, _ => none
  | n + 1, v1, v2, v3, M => if inR v3 then (if inR (M k 0) then (if (M k 0) ≤ v3 then (some (v2, M)) else (if 0 ≤ v3 ∧ v3 < 3 then (if inR (M (k + 1) v3.toNat) then (if inR v1 then (if (M (k + 1) v3.toNat) = v1 then (f_X3_countIn_b25 (f_X3_countIn_b4 k n) k v1 (v2 + 1) v3 M) else (f_X3_countIn_b25 (f_X3_countIn_b4 k n) k v1 v2 v3 M)) else none) else none) else none)) else none) else none
def f_X3_countIn (k : Nat) (v1 : Int) (M : Mem) : Option (Int × Mem) :=
  f_X3_countIn_b4 k 100000 v1 0 0 M
def f_X9_pasture_b106 (t1 : Int) (M : Mem) : Option (Int × Mem) :=
  some (t1, M)
def f_X9_pasture (v1 : Int) (v2 : Int) (M : Mem) : Option (Int × Mem) :=
  zbnd (f_X9_isPasture v1 M) fun r1 M2 => if inR r1 then (if r1 = 0 then (some ((-1), M2)) else (if inR v2 then (if v2 = 0 then (if 0 ≤ v1 ∧ v1 < 8 then (some (M2 5 v1.toNat, M2)) else none) else if v2 = 1 then (if 0 ≤ v1 ∧ v1 < 8 then (some (M2 6 v1.toNat, M2)) else none) else if v2 = 2 then (if 0 ≤ v1 ∧ v1 < 8 then (if inR (M2 9 v1.toNat) then (if (M2 9 v1.toNat) = 0 then (f_X9_pasture_b106 0 M2) else (f_X9_pasture_b106 1 M2)) else none) else none) else if v2 = 3 then (if 0 ≤ v1 ∧ v1 < 8 then (some (M2 7 v1.toNat, M2)) else none) else if v2 = 4 then (zbnd (f_X8_countIn 11 v1 M2) fun r16 M17 => some (r16, M17)) else if v2 = 5 then (zbnd (f_X7_seasonLatitude 1 M2) fun r20 M21 => zbnd (f_X2_distance 4 v1 r20 M21) fun r23 M24 => some (r23, M24)) else if v2 = 6 then (zbnd (f_X0_heatIn 14 v1 M2) fun r27 M28 => some (r27, M28)) else if v2 = 7 then (zbnd (f_X3_countIn 19 v1 M2) fun r31 M32 => some (r31, M32)) else if v2 = 8 then (if 0 ≤ v1 ∧ v1 < 8 then (some (M2 8 v1.toNat, M2)) else none) else (some ((-2), M2))) else none)) else none
def f_X9_post (M : Mem) : Option (Int × Mem) :=
  zbnd (f_X2_inns 4 M) fun r1 M2 => if inR r1 then (if 1 ≤ r1 then (zbnd (f_X1_store 1 M2) fun r5 M6 => zbnd (f_X7_letInnsPost 1 M6) fun r8 M9 => some (r1, M9)) else (some ((-5), M2))) else none
def f_X6_put_b30 (M : Mem) : Option (Int × Mem) :=
  some (0, M)
def f_X6_put (v1 : Int) (M : Mem) : Option (Int × Mem) :=
  if inR (M 206 5) then (if 137 ≤ (M 206 5) then (f_X6_put_b30 M) else (if 0 ≤ (M 206 5) ∧ (M 206 5) < 137 then (zlt (wr M 207 (M 206 5).toNat v1) fun M3 => zlt (wr M3 206 5 ((M3 206 5) + 1)) fun M4 => f_X6_put_b30 M4) else none)) else none
def f_X6_begin_b27 : Nat → Int → Int → Mem → Option (Int × Mem)
  | 0, _, _, _ => none
  | n + 1, v1, v2, M => if inR v2 then (if 8 ≤ v2 then (zlt (wr M 206 5 0) fun M7 => zbnd (f_X6_put v1 M7) fun r8 M9 => some (0, M9)) else (if 0 ≤ v2 ∧ v2 < 8 then (zlt (wr M 208 v2.toNat 0) fun M12 => zlt (wr M12 209 v2.toNat 0) fun M13 => f_X6_begin_b27 n v1 (v2 + 1) M13) else none)) else none
def f_X6_begin (v1 : Int) (M : Mem) : Option (Int × Mem) :=
  zlt (wr M 206 0 0) fun M1 => zlt (wr M1 206 1 0) fun M2 => zlt (wr M2 206 2 0) fun M3 => zlt (wr M3 206 3 0) fun M4 => zlt (wr M4 206 4 0) fun M5 => f_X6_begin_b27 100000 v1 0 M5
def f_X6_nearestNewInn_b101 (g10 : Int → Int → Int → Int → Mem → Option (Int × Mem)) (k1 : Nat) (v2 : Int) (v3 : Int) (v4 : Int) (v5 : Int) (M : Mem) : Option (Int × Mem) :=
  g10 v2 v3 v4 (v5 + 1) M
def f_X6_nearestNewInn_b54 (g10 : Int → Int → Int → Int → Mem → Option (Int × Mem)) (k1 : Nat) (v2 : Int) (v3 : Int) (v4 : Int) (v5 : Int) (t1 : Int) (M : Mem) : Option (Int × Mem) :=
  if inR v5 then (if inR v2 then (if v5 = v2 then (f_X6_nearestNewInn_b101 g10 k1 v2 v3 v4 v5 M) else (if inR t1 then (if t1 = 0 then (f_X6_nearestNewInn_b101 g10 k1 v2 v3 v4 v5 M) else (if 0 ≤ v2 ∧ v2 < 8 then (zbnd (f_X2_distance k1 v5 (M (k1 + 1) v2.toNat) M) fun r17 M18 => if inR r17 then (if inR v4 then (if v4 ≤ r17 then (f_X6_nearestNewInn_b101 g10 k1 v2 v3 v4 v5 M18) else (zbnd (f_X2_distance k1 v5 (M18 (k1 + 1) v2.toNat) M18) fun r22 M23 => f_X6_nearestNewInn_b101 g10 k1 v2 v5 r22 v5 M23)) else none) else none) else none)) else none)) else none) else none
def f_X6_nearestNewInn_b53 (g10 : Int → Int → Int → Int → Mem → Option (Int × Mem)) (k1 : Nat) (v2 : Int) (v3 : Int) (v4 : Int) (v5 : Int) (M : Mem) : Option (Int × Mem) :=
  f_X6_nearestNewInn_b54 g10 k1 v2 v3 v4 v5 0 M
def f_X6_nearestNewInn_b10 (k1 : Nat) : Nat → Int → Int → Int → Int → Mem → Option (Int × Mem)
  | 0, _, _, _, _, _ => none
  | n + 1, v2, v3, v4, v5, M => if inR v5 then (if inR (M k1 0) then (if (M k1 0) ≤ v5 then (some (v3, M)) else (if 0 ≤ v5 ∧ v5 < 8 then (if inR (M (k1 + 5) v5.toNat) then (if (M (k1 + 5) v5.toNat) = 0 then (f_X6_nearestNewInn_b53 (f_X6_nearestNewInn_b10 k1 n) k1 v2 v3 v4 v5 M) else (if inR (M 209 v5.toNat) then (if (M 209 v5.toNat) = 0 then (if inR (M 208 v5.toNat) then (if (M 208 v5.toNat) = 0 then (f_X6_nearestNewInn_b54 (f_X6_nearestNewInn_b10 k1 n) k1 v2 v3 v4 v5 1 M) else (f_X6_nearestNewInn_b53 (f_X6_nearestNewInn_b10 k1 n) k1 v2 v3 v4 v5 M)) else none) else (f_X6_nearestNewInn_b53 (f_X6_nearestNewInn_b10 k1 n) k1 v2 v3 v4 v5 M)) else none)) else none) else none)) else none) else none
def f_X6_nearestNewInn (k1 : Nat) (v2 : Int) (M : Mem) : Option (Int × Mem) :=
  f_X6_nearestNewInn_b10 k1 100000 v2 (-5) 91 0 M
def f_X6_next_b113 (k1 : Nat) (v2 : Int) (v3 : Int) (M : Mem) : Option (Int × Mem) :=
  zbnd (f_X6_nearestNewInn (k1 + 3) v3 M) fun r32 M33 => if inR r32 then (if r32 = (-5) then (zlt (wr M33 206 0 ((M33 206 0) + (M33 (k1 + 3) 0))) fun M36 => zlt (wr M36 206 4 1) fun M37 => if 0 ≤ v2 ∧ v2 < 16 then (some (M37 (k1 + 14) v2.toNat, M37)) else none) else (zlt (wr M33 206 0 ((M33 206 0) + 1)) fun M41 => zlt (wr M41 206 3 ((M41 206 3) + 1)) fun M42 => if 0 ≤ r32 ∧ r32 < 8 then (zlt (wr M42 209 r32.toNat 1) fun M44 => some (r32, M44)) else none)) else none
def f_X6_next (k1 : Nat) (v2 : Int) (v3 : Int) (M : Mem) : Option (Int × Mem) :=
  zbnd (f_X8_isAt (k1 + 10) v3 v2 M) fun r2 M3 => if inR r2 then (if r2 = 0 then (zbnd (f_X9_cell v3 v2 M3) fun r8 M9 => if 0 ≤ r8 ∧ r8 < 128 then (zlt (M9 (k1 + 9) r8.toNat) fun x12 => if 0 ≤ v3 ∧ v3 < 8 then (if inR (M9 208 v3.toNat) then (if (M9 208 v3.toNat) = 0 then (if inR x12 then (if x12 = (-5) then (f_X6_next_b113 k1 v2 v3 M9) else (if inR v3 then (if x12 = v3 then (f_X6_next_b113 k1 v2 v3 M9) else (zlt (wr M9 206 0 ((M9 206 0) + 1)) fun M17 => zlt (wr M17 206 2 ((M17 206 2) + 1)) fun M18 => zlt (wr M18 208 v3.toNat 1) fun M19 => some (x12, M19))) else none)) else none) else (f_X6_next_b113 k1 v2 v3 M9)) else none) else none) else none) else (zlt (wr M3 206 0 ((M3 206 0) + 1)) fun M23 => zlt (wr M23 206 1 ((M23 206 1) + 1)) fun M24 => zbnd (f_X9_cell v3 v2 M24) fun r26 M27 => if 0 ≤ r26 ∧ r26 < 128 then (some (M27 (k1 + 11) r26.toNat, M27)) else none)) else none
def f_X6_find_b72 (k1 : Nat) (M : Mem) : Option (Int × Mem) :=
  some (0, M)
def f_X6_find_b35 (k1 : Nat) : Nat → Int → Int → Int → Int → Mem → Option (Int × Mem)
  | 0, _, _, _, _, _ => none
  | n + 1, v3, v4, v5, v6, M => if inR v6 then (if 137 ≤ v6 then (f_X6_find_b72 k1 M) else (if inR v4 then (if inR v5 then (if v4 = v5 then (f_X6_find_b72 k1 M) else (zbnd (f_X6_next k1 v3 v4 M) fun r18 M19 => zbnd (f_X6_put r18 M19) fun r21 M22 => f_X6_find_b35 k1 n v3 r18 v5 (v6 + 1) M22)) else none) else none)) else none
def f_X6_find (k1 : Nat) (v2 : Int) (v3 : Int) (M : Mem) : Option (Int × Mem) :=
  zbnd (f_X9_cell v2 v3 M) fun r3 M4 => if 0 ≤ r3 ∧ r3 < 96 then (zlt (M4 (k1 + 27) r3.toNat) fun x7 => if 0 ≤ v3 ∧ v3 < 16 then (zlt (M4 (k1 + 14) v3.toNat) fun x11 => zbnd (f_X6_begin x7 M4) fun r12 M13 => f_X6_find_b35 k1 100000 v3 x7 x11 0 M13) else none) else none
def f_X9_reach_b15 (M : Mem) : Option (Int × Mem) :=
  some ((-1), M)
def f_X9_reach_b115 (t1 : Int) (M : Mem) : Option (Int × Mem) :=
  some (t1, M)
def f_X9_reach (v1 : Int) (v2 : Int) (v3 : Int) (M : Mem) : Option (Int × Mem) :=
  zbnd (f_X9_isReader v1 M) fun r1 M2 => if inR r1 then (if r1 = 0 then (f_X9_reach_b15 M2) else (zbnd (f_X9_isKey v2 M2) fun r5 M6 => if inR r5 then (if r5 = 0 then (f_X9_reach_b15 M6) else (if inR v2 then (zbnd (f_X6_find 1 v1 (v2.tdiv 16) M6) fun r10 M11 => if inR v3 then (if v3 = 0 then (some (M11 206 0, M11)) else if v3 = 1 then (some (M11 206 1, M11)) else if v3 = 2 then (some (M11 206 2, M11)) else if v3 = 3 then (some (M11 206 3, M11)) else if v3 = 4 then (if inR (M11 206 4) then (if (M11 206 4) = 0 then (f_X9_reach_b115 0 M11) else (f_X9_reach_b115 1 M11)) else none) else (some ((-2), M11))) else none) else none)) else none)) else none
def f_X9_reader (v1 : Int) (v2 : Int) (M : Mem) : Option (Int × Mem) :=
  zbnd (f_X9_isReader v1 M) fun r1 M2 => if inR r1 then (if r1 = 0 then (some ((-1), M2)) else (if inR v2 then (if v2 = 0 then (if 0 ≤ v1 ∧ v1 < 6 then (some (M2 23 v1.toNat, M2)) else none) else if v2 = 1 then (if 0 ≤ v1 ∧ v1 < 6 then (some (M2 24 v1.toNat, M2)) else none) else if v2 = 2 then (if 0 ≤ v1 ∧ v1 < 6 then (some (M2 25 v1.toNat, M2)) else none) else if v2 = 3 then (if 0 ≤ v1 ∧ v1 < 6 then (some (M2 26 v1.toNat, M2)) else none) else if v2 = 4 then (if 0 ≤ v1 ∧ v1 < 6 then (some (M2 27 v1.toNat, M2)) else none) else (some ((-2), M2))) else none)) else none
def f_X9_remembered_b15 (M : Mem) : Option (Int × Mem) :=
  some ((-1), M)
def f_X9_remembered (v1 : Int) (v2 : Int) (M : Mem) : Option (Int × Mem) :=
  zbnd (f_X9_isReader v1 M) fun r1 M2 => if inR r1 then (if r1 = 0 then (f_X9_remembered_b15 M2) else (zbnd (f_X9_isShard v2 M2) fun r5 M6 => if inR r5 then (if r5 = 0 then (f_X9_remembered_b15 M6) else (zbnd (f_X9_cell v1 v2 M6) fun r9 M10 => if 0 ≤ r9 ∧ r9 < 96 then (some (M10 28 r9.toNat, M10)) else none)) else none)) else none
def f_X0_warm (k : Nat) (v1 : Int) (v2 : Int) (M : Mem) : Option (Int × Mem) :=
  if 0 ≤ v1 ∧ v1 < 16 then (if inR ((M (k + 2) v1.toNat) + v2) then (zlt (wr M (k + 2) v1.toNat (imin ((M (k + 2) v1.toNat) + v2) 9999)) fun M4 => some (0, M4)) else none) else none
def f_X4_note_b42 (k : Nat) (v1 : Int) (v2 : Int) (v3 : Int) (M : Mem) : Option (Int × Mem) :=
  if 0 ≤ v1 ∧ v1 < 6 then (if inR (M (k + 5) v1.toNat) then (if inR (M 206 0) then (zlt (wr M (k + 5) v1.toNat (imax (M (k + 5) v1.toNat) (M 206 0))) fun M14 => zbnd (f_X9_cell v1 v2 M14) fun r16 M17 => if 0 ≤ r16 ∧ r16 < 96 then (zlt (wr M17 (k + 6) r16.toNat v3) fun M20 => some (0, M20)) else none) else none) else none) else none
def f_X4_note (k : Nat) (v1 : Int) (v2 : Int) (v3 : Int) (M : Mem) : Option (Int × Mem) :=
  if 0 ≤ v1 ∧ v1 < 6 then (zlt (wr M (k + 2) v1.toNat ((M (k + 2) v1.toNat) + 1)) fun M3 => zlt (wr M3 (k + 3) v1.toNat ((M3 (k + 3) v1.toNat) + (M3 206 0))) fun M5 => if inR (M5 206 4) then (if (M5 206 4) = 0 then (f_X4_note_b42 k v1 v2 v3 M5) else (zlt (wr M5 (k + 4) v1.toNat ((M5 (k + 4) v1.toNat) + 1)) fun M8 => f_X4_note_b42 k v1 v2 v3 M8)) else none) else none
def f_X7_noteRequest_b72 (g36 : Int → Mem → Option (Int × Mem)) (k : Nat) (v4 : Int) (M : Mem) : Option (Int × Mem) :=
  g36 (v4 + 1) M
def f_X7_noteRequest_b36 (k : Nat) : Nat → Int → Mem → Option (Int × Mem)
  | 0, _, _ => none
  | n + 1, v4, M => if inR v4 then (if inR (M (k + 3) 0) then (if (M (k + 3) 0) ≤ v4 then (some (0, M)) else (if 0 ≤ v4 ∧ v4 < 8 then (if inR (M 209 v4.toNat) then (if (M 209 v4.toNat) = 0 then (f_X7_noteRequest_b72 (f_X7_noteRequest_b36 k n) k v4 M) else (zlt (wr M (k + 7) v4.toNat ((M (k + 7) v4.toNat) + 1)) fun M18 => f_X7_noteRequest_b72 (f_X7_noteRequest_b36 k n) k v4 M18)) else none) else none)) else none) else none
def f_X7_noteRequest (k : Nat) (v1 : Int) (v2 : Int) (M : Mem) : Option (Int × Mem) :=
  if 0 ≤ v2 ∧ v2 < 16 then (zbnd (f_X4_note (k + 21) v1 v2 (M (k + 14) v2.toNat) M) fun r5 M6 => zbnd (f_X0_warm (k + 13) v2 (M6 (k + 1) 5) M6) fun r9 M10 => f_X7_noteRequest_b36 k 100000 0 M10) else none
def f_X9_serve_b52 (M : Mem) : Option (Int × Mem) :=
  some (M 206 0, M)
def f_X9_serve (v1 : Int) (v2 : Int) (v3 : Int) (M : Mem) : Option (Int × Mem) :=
  if inR v2 then (zlt (v2.tdiv 16) fun x2 => zbnd (f_X6_find 1 v1 x2 M) fun r3 M4 => zbnd (f_X7_noteRequest 1 v1 x2 M4) fun r6 M7 => if inR v3 then (if v3 = (-1) then (f_X9_serve_b52 M7) else (if 0 ≤ v2 ∧ v2 < 256 then (zlt (wr M7 18 v2.toNat v3) fun M11 => f_X9_serve_b52 M11) else none)) else none) else none
def f_X9_request_b15 (M : Mem) : Option (Int × Mem) :=
  some ((-1), M)
def f_X9_request (v1 : Int) (v2 : Int) (M : Mem) : Option (Int × Mem) :=
  zbnd (f_X9_isReader v1 M) fun r1 M2 => if inR r1 then (if r1 = 0 then (f_X9_request_b15 M2) else (zbnd (f_X9_isKey v2 M2) fun r5 M6 => if inR r5 then (if r5 = 0 then (f_X9_request_b15 M6) else (zbnd (f_X1_store 1 M6) fun r9 M10 => zbnd (f_X9_serve v1 v2 (-1) M10) fun r12 M13 => some (r12, M13))) else none)) else none
def f_X9_restore (M : Mem) : Option (Int × Mem) :=
  if inR (M 0 6) then (if (M 0 6) = 0 then (some ((-5), M)) else (zbnd (f_X1_store 1 M) fun r2 M3 => zbnd (f_X7_copyFrom 1 59 M3) fun r5 M6 => some (M6 1 0, M6))) else none
def f_X9_set (v1 : Int) (v2 : Int) (M : Mem) : Option (Int × Mem) :=
  zbnd (f_X9_isWithin v1 0 5 M) fun r1 M2 => if inR r1 then (if r1 = 0 then (some ((-2), M2)) else (if 0 ≤ v1 ∧ v1 < 6 then (zbnd (f_X9_isWithin v2 (zR0 v1.toNat) (zR1 v1.toNat) M2) fun r8 M9 => if inR r8 then (if r8 = 0 then (some ((-2), M9)) else (zlt (M9 2 v1.toNat) fun x12 => if inR x12 then (if inR v2 then (if x12 = v2 then (some ((-5), M9)) else (zbnd (f_X1_store 1 M9) fun r15 M16 => zlt (wr M16 2 v1.toNat v2) fun M18 => some (x12, M18))) else none) else none)) else none) else none)) else none
def f_X2_forgetPosted_b2 (k : Nat) : Nat → Int → Int → Mem → Option (Int × Mem)
  | 0, _, _, _ => none
  | n + 1, v1, v2, M => if inR v2 then (if 16 ≤ v2 then (some (0, M)) else (zbnd (f_X9_cell v1 v2 M) fun r3 M4 => if 0 ≤ r3 ∧ r3 < 128 then (zlt (wr M4 (k + 6) r3.toNat (-5)) fun M7 => f_X2_forgetPosted_b2 k n v1 (v2 + 1) M7) else none)) else none
def f_X2_forgetPosted (k : Nat) (v1 : Int) (M : Mem) : Option (Int × Mem) :=
  f_X2_forgetPosted_b2 k 100000 v1 0 M
def f_X9_setInn (v1 : Int) (v2 : Int) (M : Mem) : Option (Int × Mem) :=
  zbnd (f_X9_isPasture v1 M) fun r1 M2 => if inR r1 then (if r1 = 0 then (some ((-1), M2)) else (if 0 ≤ v1 ∧ v1 < 8 then (if inR (M2 9 v1.toNat) then (if inR v2 then (if (M2 9 v1.toNat) = v2 then (some ((-5), M2)) else (zbnd (f_X1_store 1 M2) fun r8 M9 => if v2 = 0 ∨ v2 = 1 then (zlt (wr M9 9 v1.toNat v2) fun M12 => zbnd (f_X2_forgetPosted 4 v1 M12) fun r13 M14 => zbnd (f_X2_inns 4 M14) fun r16 M17 => some (r16, M17)) else none)) else none) else none) else none)) else none
def f_X9_setRoom (v1 : Int) (v2 : Int) (M : Mem) : Option (Int × Mem) :=
  zbnd (f_X9_isPasture v1 M) fun r1 M2 => if inR r1 then (if r1 = 0 then (some ((-1), M2)) else (zbnd (f_X9_isWithin v2 1 16 M2) fun r5 M6 => if inR r5 then (if r5 = 0 then (some ((-2), M6)) else (if 0 ≤ v1 ∧ v1 < 8 then (if inR (M6 7 v1.toNat) then (if inR v2 then (if (M6 7 v1.toNat) ≤ v2 then (zlt (M6 6 v1.toNat) fun x12 => if inR x12 then (if x12 = v2 then (some ((-5), M6)) else (zbnd (f_X1_store 1 M6) fun r14 M15 => zlt (wr M15 6 v1.toNat v2) fun M17 => some (x12, M17))) else none) else (some ((-4), M6))) else none) else none) else none)) else none)) else none
def f_X9_setSeason_b19 (M : Mem) : Option (Int × Mem) :=
  some ((-2), M)
def f_X9_setSeason (v1 : Int) (v2 : Int) (M : Mem) : Option (Int × Mem) :=
  zbnd (f_X9_isWithin v1 0 3 M) fun r1 M2 => if inR r1 then (if r1 = 0 then (f_X9_setSeason_b19 M2) else (zbnd (f_X9_isWithin v2 0 90 M2) fun r5 M6 => if inR r5 then (if r5 = 0 then (f_X9_setSeason_b19 M6) else (if 0 ≤ v1 ∧ v1 < 4 then (zlt (M6 3 v1.toNat) fun x10 => if inR x10 then (if inR v2 then (if x10 = v2 then (some ((-5), M6)) else (zbnd (f_X1_store 1 M6) fun r13 M14 => zlt (wr M14 3 v1.toNat v2) fun M16 => some (x10, M16))) else none) else none) else none)) else none)) else none
def f_X0_placeByHeat_b22 (g4 : Int → Int → Int → Mem → Option (Int × Mem)) (k : Nat) (v1 : Int) (v2 : Int) (v3 : Int) (M : Mem) : Option (Int × Mem) :=
  g4 v1 v2 (v3 + 1) M
def f_X0_placeByHeat_b4 (k : Nat) : Nat → Int → Int → Int → Mem → Option (Int × Mem)
  | 0, _, _, _, _ => none
  | n + 1, v1, v2, v3, M => if inR v3 then (if 16 ≤ v3 then (some (v2, M)) else (zbnd (f_X0_isAskedBefore k v3 v1 M) fun r2 M3 => if inR r2 then (if r2 = 0 then (f_X0_placeByHeat_b22 (f_X0_placeByHeat_b4 k n) k v1 v2 v3 M3) else (f_X0_placeByHeat_b22 (f_X0_placeByHeat_b4 k n) k v1 (v2 + 1) v3 M3)) else none)) else none
def f_X0_placeByHeat (k : Nat) (v1 : Int) (M : Mem) : Option (Int × Mem) :=
  f_X0_placeByHeat_b4 k 100000 v1 0 0 M
def f_X0_sumOfValues_b4 (k : Nat) : Nat → Int → Int → Int → Mem → Option (Int × Mem)
  | 0, _, _, _, _ => none
  | n + 1, v1, v2, v3, M => if inR v3 then (if 16 ≤ v3 then (some (v2, M)) else (if 0 ≤ ((v1 * 16) + v3) ∧ ((v1 * 16) + v3) < 256 then (zlt (v2 + (M (k + 4) ((v1 * 16) + v3).toNat)) fun x4 => f_X0_sumOfValues_b4 k n v1 x4 (v3 + 1) M) else none)) else none
def f_X0_sumOfValues (k : Nat) (v1 : Int) (M : Mem) : Option (Int × Mem) :=
  f_X0_sumOfValues_b4 k 100000 v1 0 0 M
def f_X8_countOf_b22 (g4 : Int → Int → Int → Mem → Option (Int × Mem)) (k : Nat) (v1 : Int) (v2 : Int) (v3 : Int) (M : Mem) : Option (Int × Mem) :=
  g4 v1 v2 (v3 + 1) M
def f_X8_countOf_b4 (k : Nat) : Nat → Int → Int → Int → Mem → Option (Int × Mem)
  | 0, _, _, _, _ => none
  | n + 1, v1, v2, v3, M => if inR v3 then (if 8 ≤ v3 then (some (v2, M)) else (zbnd (f_X8_isAt k v3 v1 M) fun r2 M3 => if inR r2 then (if r2 = 0 then (f_X8_countOf_b22 (f_X8_countOf_b4 k n) k v1 v2 v3 M3) else (f_X8_countOf_b22 (f_X8_countOf_b4 k n) k v1 (v2 + 1) v3 M3)) else none)) else none
def f_X8_countOf (k : Nat) (v1 : Int) (M : Mem) : Option (Int × Mem) :=
  f_X8_countOf_b4 k 100000 v1 0 0 M
def f_X9_shard (v1 : Int) (v2 : Int) (M : Mem) : Option (Int × Mem) :=
  zbnd (f_X9_isShard v1 M) fun r1 M2 => if inR r1 then (if r1 = 0 then (some ((-1), M2)) else (if inR v2 then (if v2 = 0 then (if 0 ≤ v1 ∧ v1 < 16 then (some (M2 15 v1.toNat, M2)) else none) else if v2 = 1 then (if 0 ≤ v1 ∧ v1 < 16 then (some (M2 16 v1.toNat, M2)) else none) else if v2 = 2 then (if 0 ≤ v1 ∧ v1 < 16 then (some (M2 17 v1.toNat, M2)) else none) else if v2 = 3 then (zbnd (f_X8_countOf 11 v1 M2) fun r12 M13 => some (r12, M13)) else if v2 = 4 then (zbnd (f_X0_placeByHeat 14 v1 M2) fun r16 M17 => some (r16, M17)) else if v2 = 5 then (if 0 ≤ v1 ∧ v1 < 16 then (zbnd (f_X7_seasonLatitude 1 M2) fun r21 M22 => zbnd (f_X2_bestOther 4 (M2 15 v1.toNat) r21 M22) fun r24 M25 => some (r24, M25)) else none) else if v2 = 6 then (zbnd (f_X0_sumOfValues 14 v1 M2) fun r28 M29 => some (r28, M29)) else (some ((-2), M2))) else none)) else none
def f_X9_track_b15 (M : Mem) : Option (Int × Mem) :=
  some ((-1), M)
def f_X9_track_b97 (t1 : Int) (M : Mem) : Option (Int × Mem) :=
  some (t1, M)
def f_X9_track (v1 : Int) (v2 : Int) (v3 : Int) (M : Mem) : Option (Int × Mem) :=
  zbnd (f_X9_isPasture v1 M) fun r1 M2 => if inR r1 then (if r1 = 0 then (f_X9_track_b15 M2) else (zbnd (f_X9_isShard v2 M2) fun r5 M6 => if inR r5 then (if r5 = 0 then (f_X9_track_b15 M6) else (if inR v3 then (if v3 = 0 then (zbnd (f_X9_cell v1 v2 M6) fun r10 M11 => if 0 ≤ r10 ∧ r10 < 128 then (some (M11 12 r10.toNat, M11)) else none) else if v3 = 1 then (zbnd (f_X8_isAt 11 v1 v2 M6) fun r15 M16 => if inR r15 then (if r15 = 0 then (f_X9_track_b97 (-5) M16) else (zbnd (f_X9_cell v1 v2 M16) fun r19 M20 => if 0 ≤ r19 ∧ r19 < 128 then (f_X9_track_b97 (M20 13 r19.toNat) M20) else none)) else none) else if v3 = 2 then (zbnd (f_X9_cell v1 v2 M6) fun r25 M26 => if 0 ≤ r25 ∧ r25 < 128 then (some (M26 10 r25.toNat, M26)) else none) else (some ((-2), M6))) else none)) else none)) else none
def f_X1_takeBack_b37 (k1 : Nat) (M : Mem) : Option (Int × Mem) :=
  some (0, M)
def f_X1_takeBack (k1 : Nat) (M : Mem) : Option (Int × Mem) :=
  if inR (M 88 0) then (if (M 88 0) ≤ 0 then (f_X1_takeBack_b37 k1 M) else (zlt (wr M 88 0 ((M 88 0) - 1)) fun M2 => if inR ((M2 88 1) + (M2 88 0)) then (if 0 ≤ (((M2 88 1) + (M2 88 0)).tmod 4) ∧ (((M2 88 1) + (M2 88 0)).tmod 4) < 4 then (zbnd (f_X7_copyFrom k1 (90 + 29 * (((M2 88 1) + (M2 88 0)).tmod 4).toNat) M2) fun r5 M6 => f_X1_takeBack_b37 k1 M6) else none) else none)) else none
def f_X9_undo (M : Mem) : Option (Int × Mem) :=
  if inR (M 88 0) then (if 1 ≤ (M 88 0) then (zbnd (f_X1_takeBack 1 M) fun r2 M3 => some (M3 88 0, M3)) else (some ((-5), M))) else none
def f_X9_value_b23 (t1 : Int) (M : Mem) : Option (Int × Mem) :=
  some (t1, M)
def f_X9_value (v1 : Int) (M : Mem) : Option (Int × Mem) :=
  zbnd (f_X9_isKey v1 M) fun r1 M2 => if inR r1 then (if r1 = 0 then (f_X9_value_b23 (-1) M2) else (if 0 ≤ v1 ∧ v1 < 256 then (f_X9_value_b23 (M2 18 v1.toNat) M2) else none)) else none
def f_X9_way_b15 (M : Mem) : Option (Int × Mem) :=
  some ((-1), M)
def f_X9_way_b65 (t1 : Int) (M : Mem) : Option (Int × Mem) :=
  some (t1, M)
def f_X9_way (v1 : Int) (v2 : Int) (v3 : Int) (M : Mem) : Option (Int × Mem) :=
  zbnd (f_X9_isReader v1 M) fun r1 M2 => if inR r1 then (if r1 = 0 then (f_X9_way_b15 M2) else (zbnd (f_X9_isKey v2 M2) fun r5 M6 => if inR r5 then (if r5 = 0 then (f_X9_way_b15 M6) else (if inR v3 then (if 0 ≤ v3 then (if inR v2 then (zbnd (f_X6_find 1 v1 (v2.tdiv 16) M6) fun r11 M12 => if inR (M12 206 5) then (if (M12 206 5) ≤ v3 then (f_X9_way_b65 (-5) M12) else (if 0 ≤ v3 ∧ v3 < 137 then (f_X9_way_b65 (M12 207 v3.toNat) M12) else none)) else none) else none) else (some ((-2), M6))) else none)) else none)) else none
def f_X9_write_b15 (M : Mem) : Option (Int × Mem) :=
  some ((-1), M)
def f_X9_write (v1 : Int) (v2 : Int) (v3 : Int) (M : Mem) : Option (Int × Mem) :=
  zbnd (f_X9_isReader v1 M) fun r1 M2 => if inR r1 then (if r1 = 0 then (f_X9_write_b15 M2) else (zbnd (f_X9_isKey v2 M2) fun r5 M6 => if inR r5 then (if r5 = 0 then (f_X9_write_b15 M6) else (zbnd (f_X9_isWithin v3 0 9999 M6) fun r9 M10 => if inR r9 then (if r9 = 0 then (some ((-2), M10)) else (zbnd (f_X1_store 1 M10) fun r13 M14 => zbnd (f_X9_serve v1 v2 v3 M14) fun r16 M17 => some (r16, M17))) else none)) else none)) else none
def f_L_low (v0 : Int) (v1 : Int) (M : Mem) : Option (Int × Mem) :=
  if inR (iand v0 2147483647) then (if inR v1 then (if v1 ≠ 0 then (some ((iand v0 2147483647).tmod v1, M)) else none) else none) else none
def f_L_acts_b156 (t4 : Int) (t3 : Int) (t2 : Int) (M : Mem) : Option (Int × Mem) :=
  zbnd (f_X9_addPasture t2 t3 t4 M) fun r108 M109 => some (r108, M109)
def f_L_acts_b194 (t3 : Int) (t2 : Int) (M : Mem) : Option (Int × Mem) :=
  zbnd (f_X9_setInn t2 t3 M) fun r111 M112 => some (r111, M112)
def f_L_acts_b286 (v1 : Int) (M : Mem) : Option (Int × Mem) :=
  zbnd (f_L_low (ishr v1 9) 6 M) fun r114 M115 => zbnd (f_X9_pass r114 M115) fun r117 M118 => some (r117, M118)
def f_L_acts_b300 (v3 : Int) (v4 : Int) (M : Mem) : Option (Int × Mem) :=
  zbnd (f_X9_move v4 v3 M) fun r120 M121 => some (r120, M121)
def f_L_acts (v1 : Int) (M : Mem) : Option (Int × Mem) :=
  zbnd (f_X9_count 3 M) fun r1 M2 => zbnd (f_L_low (ishr v1 5) (r1 + 1) M2) fun r4 M5 => zbnd (f_L_low (ishr v1 9) 17 M5) fun r7 M8 => zbnd (f_L_low v1 20 M8) fun r10 M11 => if inR r10 then (if r10 = 0 then (zbnd (f_L_low (ishr v1 9) 92 M11) fun r14 M15 => zbnd (f_L_low (ishr v1 16) 17 M15) fun r17 M18 => if inR (iand (ishr v1 24) 1) then (if (iand (ishr v1 24) 1) = 1 then (f_L_acts_b156 1 (1 + r17) r14 M18) else (f_L_acts_b156 0 (1 + r17) r14 M18)) else none) else if r10 = 1 then (zbnd (f_L_low (ishr v1 9) 17 M11) fun r23 M24 => zbnd (f_X9_setRoom r4 (1 + r23) M24) fun r26 M27 => some (r26, M27)) else if r10 = 2 then (if inR (iand (ishr v1 9) 1) then (if (iand (ishr v1 9) 1) = 1 then (f_L_acts_b194 1 r4 M11) else (f_L_acts_b194 0 r4 M11)) else none) else if r10 = 3 then (zbnd (f_L_low (ishr v1 9) 8 M11) fun r33 M34 => zbnd (f_X9_addWolf r4 (1 + r33) M34) fun r36 M37 => some (r36, M37)) else if r10 = 4 then (zbnd (f_X9_driveWolf M11) fun r40 M41 => some (r40, M41)) else if r10 = 5 then (zbnd (f_X9_addReader r4 M11) fun r44 M45 => some (r44, M45)) else if r10 = 6 then (zbnd (f_L_low (ishr v1 5) 5 M11) fun r48 M49 => zbnd (f_L_low (ishr v1 9) 92 M49) fun r51 M52 => zbnd (f_X9_setSeason r48 r51 M52) fun r54 M55 => some (r54, M55)) else if r10 = 7 then (zbnd (f_L_low (ishr v1 5) 7 M11) fun r58 M59 => zbnd (f_L_low (ishr v1 9) 32 M59) fun r61 M62 => zbnd (f_X9_set r58 r61 M62) fun r64 M65 => some (r64, M65)) else if r10 = 8 then (zbnd (f_X9_post M11) fun r68 M69 => some (r68, M69)) else if r10 = 9 then (zbnd (f_L_low (ishr v1 5) 4 M11) fun r72 M73 => zbnd (f_X9_cut r72 M73) fun r75 M76 => some (r75, M76)) else if r10 = 10 then (f_L_acts_b286 v1 M11) else if r10 = 11 then (f_L_acts_b286 v1 M11) else if r10 = 12 then (f_L_acts_b286 v1 M11) else if r10 = 13 then (f_L_acts_b300 r4 r7 M11) else if r10 = 14 then (f_L_acts_b300 r4 r7 M11) else if r10 = 15 then (f_L_acts_b300 r4 r7 M11) else if r10 = 16 then (f_L_acts_b300 r4 r7 M11) else if r10 = 17 then (zbnd (f_L_low (ishr v1 5) 4 M11) fun r86 M87 => zbnd (f_L_low (ishr v1 9) 260 M87) fun r89 M90 => zbnd (f_L_low (ishr v1 18) 10001 M90) fun r92 M93 => zbnd (f_X9_write r86 r89 r92 M93) fun r95 M96 => some (r95, M96)) else (zbnd (f_L_low (ishr v1 5) 4 M11) fun r99 M100 => zbnd (f_L_low (ishr v1 9) 256 M100) fun r102 M103 => zbnd (f_X9_request r99 r102 M103) fun r105 M106 => some (r105, M106))) else none
def f_L_all_b76 (g33 : Int → Int → Mem → Option (Int × Mem)) : Nat → Int → Int → Int → Mem → Option (Int × Mem)
  | 0, _, _, _, _ => none
  | n + 1, v1, v3, v4, M => if inR v4 then (if 48 ≤ v4 then (g33 v1 (v3 + 1) M) else (zbnd (f_X9_track v3 (v4.tmod 16) (v4.tdiv 16) M) fun r32 M33 => zlt ((31 * v1) + (i2l r32)) fun x35 => f_L_all_b76 g33 n x35 v3 (v4 + 1) M33)) else none
def f_L_all_b45 (g33 : Int → Int → Mem → Option (Int × Mem)) : Nat → Int → Int → Int → Mem → Option (Int × Mem)
  | 0, _, _, _, _ => none
  | n + 1, v1, v3, v4, M => if inR v4 then (if 9 ≤ v4 then (f_L_all_b76 g33 100000 v1 v3 0 M) else (zbnd (f_X9_pasture v3 v4 M) fun r20 M21 => zlt ((31 * v1) + (i2l r20)) fun x23 => f_L_all_b45 g33 n x23 v3 (v4 + 1) M21)) else none
def f_L_all_b209 (g154 : Int → Int → Mem → Option (Int × Mem)) (g167 : Int → Int → Int → Mem → Option (Int × Mem)) (v3 : Int) (v4 : Int) (t2 : Int) (t1 : Int) (M : Mem) : Option (Int × Mem) :=
  zlt (t1 + (i2l t2)) fun x46 => g167 x46 v3 (v4 + 1) M
def f_L_all_b167 (g154 : Int → Int → Mem → Option (Int × Mem)) : Nat → Int → Int → Int → Mem → Option (Int × Mem)
  | 0, _, _, _, _ => none
  | n + 1, v1, v3, v4, M => if inR v4 then (if 16 ≤ v4 then (g154 v1 (v3 + 1) M) else (zbnd (f_X9_remembered v3 v4 M) fun r38 M39 => if 5 ≤ v4 then (f_L_all_b209 g154 (f_L_all_b167 g154 n) v3 v4 0 ((31 * v1) + (7 * (i2l r38))) M39) else (zbnd (f_X9_reader v3 v4 M39) fun r41 M42 => f_L_all_b209 g154 (f_L_all_b167 g154 n) v3 v4 r41 ((31 * v1) + (7 * (i2l r38))) M42))) else none
def f_L_all_b154 : Nat → Int → Int → Mem → Option (Int × Mem)
  | 0, _, _, _ => none
  | n + 1, v1, v3, M => zbnd (f_X9_count 6 M) fun r25 M26 => if inR v3 then (if inR r25 then (if r25 ≤ v3 then (some (v1, M26)) else (f_L_all_b167 (f_L_all_b154 n) 100000 v1 v3 0 M26)) else none) else none
def f_L_all_b120 : Nat → Int → Int → Mem → Option (Int × Mem)
  | 0, _, _, _ => none
  | n + 1, v1, v3, M => if inR v3 then (if 112 ≤ v3 then (f_L_all_b154 100000 v1 0 M) else (zbnd (f_X9_shard (v3.tmod 16) (v3.tdiv 16) M) fun r14 M15 => zlt ((31 * v1) + (i2l r14)) fun x17 => f_L_all_b120 n x17 (v3 + 1) M15)) else none
def f_L_all_b33 : Nat → Int → Int → Mem → Option (Int × Mem)
  | 0, _, _, _ => none
  | n + 1, v1, v3, M => zbnd (f_X9_count 3 M) fun r7 M8 => if inR v3 then (if inR r7 then (if r7 ≤ v3 then (f_L_all_b120 100000 v1 0 M8) else (f_L_all_b45 (f_L_all_b33 n) 100000 v1 v3 0 M8)) else none) else none
def f_L_all_b6 : Nat → Int → Int → Mem → Option (Int × Mem)
  | 0, _, _, _ => none
  | n + 1, v1, v3, M => if inR v3 then (if 13 ≤ v3 then (f_L_all_b33 100000 v1 0 M) else (zbnd (f_X9_count v3 M) fun r2 M3 => zlt ((31 * v1) + (i2l r2)) fun x5 => f_L_all_b6 n x5 (v3 + 1) M3)) else none
def f_L_all (M : Mem) : Option (Int × Mem) :=
  f_L_all_b6 100000 19 0 M
def f_L_isForetold_b112 (M : Mem) : Option (Int × Mem) :=
  some (0, M)
def f_L_isForetold_b176 (M : Mem) : Option (Int × Mem) :=
  some (0, M)
def f_L_isForetold_b199 (t1 : Int) (M : Mem) : Option (Int × Mem) :=
  if t1 = 0 ∨ t1 = 1 then (some (t1, M)) else none
def f_L_isForetold_b198 (M : Mem) : Option (Int × Mem) :=
  f_L_isForetold_b199 0 M
def f_L_isForetold_b173 (v2 : Int) (t2 : Int) (t1 : Int) (M : Mem) : Option (Int × Mem) :=
  if t1 = t2 ∨ (inR t1 ∧ inR t2) then (if t1 = t2 then (zbnd (f_X9_undo M) fun r65 M66 => if inR r65 then (if r65 < 0 then (f_L_isForetold_b198 M66) else (zbnd (f_L_all M66) fun r69 M70 => if inR (zcmp r69 v2) then (if (zcmp r69 v2) = 0 then (f_L_isForetold_b199 1 M70) else (f_L_isForetold_b198 M70)) else none)) else none) else (f_L_isForetold_b176 M)) else none
def f_L_isForetold_b163 (v2 : Int) (v5 : Int) (t1 : Int) (M : Mem) : Option (Int × Mem) :=
  if inR v5 then (if 0 ≤ v5 then (f_L_isForetold_b173 v2 0 t1 M) else (f_L_isForetold_b173 v2 1 t1 M)) else none
def f_L_isForetold_b142 (v2 : Int) (v4 : Int) (v5 : Int) (v7 : Int) (t3 : Int) (t2 : Int) (t1 : Int) (M : Mem) : Option (Int × Mem) :=
  if t1 = (t2 + t3) ∨ (inR t1 ∧ inR (t2 + t3)) then (if t1 = (t2 + t3) then (zbnd (f_X9_shard v4 0 M) fun r56 M57 => if r56 = v7 ∨ (inR r56 ∧ inR v7) then (if r56 = v7 then (f_L_isForetold_b163 v2 v5 1 M57) else (f_L_isForetold_b163 v2 v5 0 M57)) else none) else (f_L_isForetold_b176 M)) else none
def f_L_isForetold_b114 (v2 : Int) (v4 : Int) (v5 : Int) (v6 : Int) (v7 : Int) (v8 : Int) (M : Mem) : Option (Int × Mem) :=
  zbnd (f_X9_pass v8 M) fun r45 M46 => if inR r45 then (if r45 < 0 then (f_L_isForetold_b176 M46) else (zbnd (f_X9_shard v4 2 M46) fun r49 M50 => if inR v5 then (if 0 ≤ v5 then (f_L_isForetold_b142 v2 v4 v5 v7 1 v6 r49 M50) else (f_L_isForetold_b142 v2 v4 v5 v7 0 v6 r49 M50)) else none)) else none
def f_L_isForetold_b62 (v2 : Int) (v4 : Int) (v5 : Int) (v6 : Int) (v7 : Int) (t1 : Int) (M : Mem) : Option (Int × Mem) :=
  if inR t1 then (if t1 ≤ 1 then (f_L_isForetold_b114 v2 v4 v5 v6 v7 t1 M) else (zbnd (f_X9_pass (t1 - 1) M) fun r24 M25 => if inR r24 then (if r24 < 0 then (f_L_isForetold_b112 M25) else (zbnd (f_X9_shard v4 2 M25) fun r28 M29 => if r28 = v6 ∨ (inR r28 ∧ inR v6) then (if r28 = v6 then (zbnd (f_X9_shard v4 0 M29) fun r32 M33 => if r32 = v7 ∨ (inR r32 ∧ inR v7) then (if r32 = v7 then (zbnd (f_X9_undo M33) fun r36 M37 => if inR r36 then (if 0 ≤ r36 then (f_L_isForetold_b114 v2 v4 v5 v6 v7 t1 M37) else (f_L_isForetold_b112 M37)) else none) else (f_L_isForetold_b112 M33)) else none) else (f_L_isForetold_b112 M29)) else none)) else none)) else none
def f_L_isForetold (v1 : Int) (M : Mem) : Option (Int × Mem) :=
  zbnd (f_L_all M) fun r1 M2 => zbnd (f_L_low v1 16 M2) fun r4 M5 => zbnd (f_X9_movesIn r4 M5) fun r7 M8 => zbnd (f_L_all M8) fun r10 M11 => if inR (zcmp r10 r1) then (if (zcmp r10 r1) = 0 then (zbnd (f_X9_shard r4 2 M11) fun r14 M15 => zbnd (f_X9_shard r4 0 M15) fun r17 M18 => if inR r7 then (if 0 ≤ r7 then (f_L_isForetold_b62 r1 r4 r7 r14 r17 r7 M18) else (f_L_isForetold_b62 r1 r4 r7 r14 r17 20 M18)) else none) else (some (0, M11))) else none
def f_L_isReached_b38 (t1 : Int) (M : Mem) : Option (Int × Mem) :=
  if t1 = 0 ∨ t1 = 1 then (some (t1, M)) else none
def f_L_isReached_b37 (M : Mem) : Option (Int × Mem) :=
  f_L_isReached_b38 0 M
def f_L_isReached_b219 (M : Mem) : Option (Int × Mem) :=
  some (0, M)
def f_L_isReached_b326 (M : Mem) : Option (Int × Mem) :=
  some (0, M)
def f_L_isReached_b328 (g224 : Int → Int → Int → Int → Int → Int → Int → Mem → Option (Int × Mem)) (v3 : Int) (v4 : Int) (v5 : Int) (v6 : Int) (v7 : Int) (v8 : Int) (v10 : Int) (M : Mem) : Option (Int × Mem) :=
  g224 v3 v4 v5 v6 v7 v8 (v10 + 1) M
def f_L_isReached_b297 (g224 : Int → Int → Int → Int → Int → Int → Int → Mem → Option (Int × Mem)) (v3 : Int) (v4 : Int) (v5 : Int) (v6 : Int) (v7 : Int) (v8 : Int) (v10 : Int) (v11 : Int) (v12 : Int) (v13 : Int) (M : Mem) : Option (Int × Mem) :=
  if inR v13 then (if 0 ≤ v13 then (f_L_isReached_b328 g224 v3 v4 v5 v6 v7 v8 v10 M) else (zbnd (f_X9_track v11 v5 2 M) fun r168 M169 => if v12 = r168 ∨ (inR v12 ∧ inR r168) then (if v12 = r168 then (f_L_isReached_b328 g224 v3 v4 v5 v6 v7 v8 v10 M169) else (zbnd (f_X9_pasture v12 2 M169) fun r172 M173 => if inR r172 then (if r172 = 0 then (f_L_isReached_b326 M173) else (f_L_isReached_b328 g224 v3 v4 v5 v6 v7 v8 v10 M173)) else none)) else none)) else none
def f_L_isReached_b478 (t1 : Int) (M : Mem) : Option (Int × Mem) :=
  if t1 = 0 ∨ t1 = 1 then (some (t1, M)) else none
def f_L_isReached_b477 (M : Mem) : Option (Int × Mem) :=
  f_L_isReached_b478 0 M
def f_L_isReached_b449 (v10 : Int) (t1 : Int) (M : Mem) : Option (Int × Mem) :=
  if inR t1 then (if t1 = 0 then (f_L_isReached_b477 M) else (zbnd (f_X9_undo M) fun r156 M157 => if inR r156 then (if r156 < 0 then (f_L_isReached_b477 M157) else (zbnd (f_L_all M157) fun r160 M161 => if inR (zcmp r160 v10) then (if (zcmp r160 v10) = 0 then (f_L_isReached_b478 1 M161) else (f_L_isReached_b477 M161)) else none)) else none)) else none
def f_L_isReached_b448 (v10 : Int) (M : Mem) : Option (Int × Mem) :=
  f_L_isReached_b449 v10 0 M
def f_L_isReached_b224 : Nat → Int → Int → Int → Int → Int → Int → Int → Mem → Option (Int × Mem)
  | 0, _, _, _, _, _, _, _, _ => none
  | n + 1, v3, v4, v5, v6, v7, v8, v10, M => if inR v10 then (if inR v7 then (if v7 ≤ v10 then (zbnd (f_L_all M) fun r87 M88 => zbnd (f_X9_shard v5 1 M88) fun r90 M91 => zbnd (f_X9_count 11 M91) fun r93 M94 => zbnd (f_X9_count 12 M94) fun r96 M97 => zbnd (f_X9_request v3 v4 M97) fun r99 M100 => if r99 = v6 ∨ (inR r99 ∧ inR v6) then (if r99 = v6 then (zbnd (f_X9_remembered v3 v5 M100) fun r103 M104 => zbnd (f_X9_shard v5 0 M104) fun r106 M107 => if r103 = r106 ∨ (inR r103 ∧ inR r106) then (if r103 = r106 then (zbnd (f_X9_shard v5 1 M107) fun r110 M111 => if inR r110 then (if inR r90 then (if r110 < r90 then (f_L_isReached_b448 r87 M111) else (zbnd (f_X9_count 11 M111) fun r115 M116 => if r115 = (r93 + 1) ∨ (inR r115 ∧ inR (r93 + 1)) then (if r115 = (r93 + 1) then (zbnd (f_X9_count 12 M116) fun r119 M120 => if r119 = (r96 + v8) ∨ (inR r119 ∧ inR (r96 + v8)) then (if r119 = (r96 + v8) then (zbnd (f_X9_reach v3 v4 0 M120) fun r123 M124 => if inR r123 then (if r123 = 0 then (f_L_isReached_b449 r87 1 M124) else (f_L_isReached_b448 r87 M124)) else none) else (f_L_isReached_b448 r87 M120)) else none) else (f_L_isReached_b448 r87 M116)) else none)) else none) else none) else (f_L_isReached_b448 r87 M107)) else none) else (f_L_isReached_b448 r87 M100)) else none) else (zbnd (f_X9_way v3 v4 v10 M) fun r133 M134 => zbnd (f_X9_way v3 v4 (v10 + 1) M134) fun r136 M137 => zbnd (f_X9_track r133 v5 0 M137) fun r139 M140 => zbnd (f_X9_shard v5 0 M140) fun r142 M143 => if r133 = r142 ∨ (inR r133 ∧ inR r142) then (if r133 = r142 then (f_L_isReached_b326 M143) else (if r133 = r136 ∨ (inR r133 ∧ inR r136) then (if r133 = r136 then (f_L_isReached_b326 M143) else (if inR r139 then (if r139 < 0 then (f_L_isReached_b297 (f_L_isReached_b224 n) v3 v4 v5 v6 v7 v8 v10 r133 r136 r139 M143) else (if r136 = r139 ∨ (inR r136 ∧ inR r139) then (if r136 = r139 then (f_L_isReached_b297 (f_L_isReached_b224 n) v3 v4 v5 v6 v7 v8 v10 r133 r136 r139 M143) else (f_L_isReached_b326 M143)) else none)) else none)) else none)) else none)) else none) else none
def f_L_isReached (v1 : Int) (M : Mem) : Option (Int × Mem) :=
  zbnd (f_X9_count 6 M) fun r1 M2 => if inR r1 then (if r1 = 0 then (zbnd (f_X9_reach 0 0 0 M2) fun r74 M75 => if inR r74 then (if r74 = (-1) then (zbnd (f_X9_way 0 0 0 M75) fun r78 M79 => if inR r78 then (if r78 = (-1) then (f_L_isReached_b38 1 M79) else (f_L_isReached_b37 M79)) else none) else (f_L_isReached_b37 M75)) else none) else (zbnd (f_L_low v1 r1 M2) fun r5 M6 => zbnd (f_L_low (ishr v1 3) 256 M6) fun r8 M9 => if inR r8 then (zlt (r8.tdiv 16) fun x12 => zbnd (f_X9_reach r5 r8 0 M9) fun r13 M14 => zbnd (f_X9_reach r5 r8 1 M14) fun r16 M17 => zbnd (f_X9_reach r5 r8 2 M17) fun r19 M20 => zbnd (f_X9_reach r5 r8 3 M20) fun r22 M23 => zlt ((r16 + r19) + r22) fun x25 => zbnd (f_X9_reach r5 r8 4 M23) fun r26 M27 => zlt (x25 + r26) fun x29 => zbnd (f_X9_count 3 M27) fun r30 M31 => if r13 = (x25 + (r26 * r30)) ∨ (inR r13 ∧ inR (x25 + (r26 * r30))) then (if r13 = (x25 + (r26 * r30)) then (zbnd (f_X9_way r5 r8 0 M31) fun r34 M35 => zbnd (f_X9_remembered r5 x12 M35) fun r37 M38 => if r34 = r37 ∨ (inR r34 ∧ inR r37) then (if r34 = r37 then (zbnd (f_X9_way r5 r8 x29 M38) fun r41 M42 => zbnd (f_X9_shard x12 0 M42) fun r44 M45 => if r41 = r44 ∨ (inR r41 ∧ inR r44) then (if r41 = r44 then (zbnd (f_X9_way r5 r8 (x29 + 1) M45) fun r48 M49 => if inR r48 then (if r48 = (-5) then (zbnd (f_X9_reach r5 r8 2 M49) fun r52 M53 => zbnd (f_X9_count 4 M53) fun r55 M56 => if inR r52 then (if inR r55 then (if r55 < r52 then (f_L_isReached_b219 M56) else (zbnd (f_X9_reach r5 r8 3 M56) fun r60 M61 => zbnd (f_X9_count 4 M61) fun r63 M64 => if inR r60 then (if inR r63 then (if r60 ≤ r63 then (f_L_isReached_b224 100000 r5 r8 x12 r13 x25 r26 0 M64) else (f_L_isReached_b219 M64)) else none) else none)) else none) else none) else (f_L_isReached_b219 M49)) else none) else (f_L_isReached_b219 M45)) else none) else (f_L_isReached_b219 M38)) else none) else (f_L_isReached_b219 M31)) else none) else none)) else none
def f_L_isSound_b156 (M : Mem) : Option (Int × Mem) :=
  some (0, M)
def f_L_isSound_b258 (M : Mem) : Option (Int × Mem) :=
  some (0, M)
def f_L_isSound_b260 (g85 : Int → Int → Int → Int → Int → Int → Mem → Option (Int × Mem)) (g161 : Int → Int → Int → Int → Int → Int → Int → Mem → Option (Int × Mem)) (v1 : Int) (v2 : Int) (v3 : Int) (v4 : Int) (v5 : Int) (v6 : Int) (v7 : Int) (M : Mem) : Option (Int × Mem) :=
  g161 v1 v2 v3 v4 v5 v6 (v7 + 1) M
def f_L_isSound_b161 (g85 : Int → Int → Int → Int → Int → Int → Mem → Option (Int × Mem)) : Nat → Int → Int → Int → Int → Int → Int → Int → Mem → Option (Int × Mem)
  | 0, _, _, _, _, _, _, _, _ => none
  | n + 1, v1, v2, v3, v4, v5, v6, v7, M => if inR v7 then (if inR v1 then (if v1 ≤ v7 then (g85 v1 v2 v3 v4 v5 (v6 + 1) M) else (zbnd (f_X9_track v7 v6 0 M) fun r73 M74 => if inR r73 then (if r73 < 0 then (f_L_isSound_b260 g85 (f_L_isSound_b161 g85 n) v1 v2 v3 v4 v5 v6 v7 M74) else (if r73 = v7 ∨ (inR r73 ∧ inR v7) then (if r73 = v7 then (f_L_isSound_b258 M74) else (if v1 ≤ r73 then (f_L_isSound_b258 M74) else (zbnd (f_X9_track v7 v6 1 M74) fun r78 M79 => zbnd (f_X9_count 0 M79) fun r81 M82 => if inR r78 then (if inR r81 then (if r81 < r78 then (f_L_isSound_b258 M82) else (zbnd (f_X9_shard v6 0 M82) fun r86 M87 => if r86 = r73 ∨ (inR r86 ∧ inR r73) then (if r86 = r73 then (f_L_isSound_b260 g85 (f_L_isSound_b161 g85 n) v1 v2 v3 v4 v5 v6 v7 M87) else (zbnd (f_X9_track r73 v6 1 M87) fun r90 M91 => if inR r90 then (if r90 < 0 then (f_L_isSound_b260 g85 (f_L_isSound_b161 g85 n) v1 v2 v3 v4 v5 v6 v7 M91) else (zbnd (f_X9_track r73 v6 1 M91) fun r94 M95 => zbnd (f_X9_track v7 v6 1 M95) fun r97 M98 => if inR r94 then (if inR r97 then (if r97 ≤ r94 then (f_L_isSound_b260 g85 (f_L_isSound_b161 g85 n) v1 v2 v3 v4 v5 v6 v7 M98) else (f_L_isSound_b258 M98)) else none) else none)) else none)) else none)) else none) else none))) else none)) else none)) else none) else none
def f_L_isSound_b308 (t1 : Int) (M : Mem) : Option (Int × Mem) :=
  if t1 = 0 ∨ t1 = 1 then (some (t1, M)) else none
def f_L_isSound_b307 (M : Mem) : Option (Int × Mem) :=
  f_L_isSound_b308 0 M
def f_L_isSound_b85 : Nat → Int → Int → Int → Int → Int → Int → Mem → Option (Int × Mem)
  | 0, _, _, _, _, _, _, _ => none
  | n + 1, v1, v2, v3, v4, v5, v6, M => if inR v6 then (if 16 ≤ v6 then (if inR v2 then (if v2 = 16 then (if inR v3 then (if v3 = 0 then (zbnd (f_X9_count 4 M) fun r31 M32 => if v4 = r31 ∨ (inR v4 ∧ inR r31) then (if v4 = r31 then (zbnd (f_X9_count 8 M32) fun r35 M36 => if v5 = r35 ∨ (inR v5 ∧ inR r35) then (if v5 = r35 then (f_L_isSound_b308 1 M36) else (f_L_isSound_b307 M36)) else none) else (f_L_isSound_b307 M32)) else none) else (f_L_isSound_b307 M)) else none) else (f_L_isSound_b307 M)) else none) else (zbnd (f_X9_shard v6 2 M) fun r43 M44 => zlt (v5 + r43) fun x46 => zbnd (f_X9_shard v6 3 M44) fun r47 M48 => zlt (v3 - r47) fun x50 => zbnd (f_X9_shard v6 0 M48) fun r51 M52 => zbnd (f_X9_track r51 v6 0 M52) fun r54 M55 => if inR r54 then (if r54 = (-5) then (zbnd (f_X9_shard v6 1 M55) fun r58 M59 => if inR r58 then (if r58 < 0 then (f_L_isSound_b156 M59) else (zbnd (f_X9_shard v6 1 M59) fun r62 M63 => if inR r62 then (if r62 ≤ 9999 then (f_L_isSound_b161 (f_L_isSound_b85 n) 100000 v1 v2 x50 v4 x46 v6 0 M63) else (f_L_isSound_b156 M63)) else none)) else none) else (f_L_isSound_b156 M55)) else none)) else none
def f_L_isSound_b19 : Nat → Int → Int → Int → Int → Int → Int → Mem → Option (Int × Mem)
  | 0, _, _, _, _, _, _, _ => none
  | n + 1, v1, v2, v3, v4, v5, v6, M => if inR v6 then (if inR v1 then (if v1 ≤ v6 then (f_L_isSound_b85 100000 v1 v2 v3 v4 v5 0 M) else (zbnd (f_X9_pasture v6 3 M) fun r6 M7 => zlt (v2 + r6) fun x9 => zbnd (f_X9_pasture v6 4 M7) fun r10 M11 => zlt (v3 + r10) fun x13 => zbnd (f_X9_pasture v6 2 M11) fun r14 M15 => zlt (v4 + r14) fun x17 => zbnd (f_X9_pasture v6 3 M15) fun r18 M19 => zbnd (f_X9_pasture v6 1 M19) fun r21 M22 => if inR r18 then (if inR r21 then (if r18 ≤ r21 then (f_L_isSound_b19 n v1 x9 x13 x17 v5 (v6 + 1) M22) else (some (0, M22))) else none) else none)) else none) else none
def f_L_isSound (M : Mem) : Option (Int × Mem) :=
  zbnd (f_X9_count 3 M) fun r1 M2 => f_L_isSound_b19 100000 r1 0 0 0 0 0 M2

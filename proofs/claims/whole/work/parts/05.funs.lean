def f_X9_isWithin_b15 (t1 : Int) (M : Mem) : Option (Int × Mem) :=
  if t1 = 0 ∨ t1 = 1 then (some (t1, M)) else none
def f_X9_isWithin_b14 (M : Mem) : Option (Int × Mem) :=
  f_X9_isWithin_b15 0 M
def f_X9_isWithin (v0 : Int) (v1 : Int) (v2 : Int) (M : Mem) : Option (Int × Mem) :=
  if inR v0 then (if inR v1 then (if v0 < v1 then (f_X9_isWithin_b14 M) else (if inR v2 then (if v2 < v0 then (f_X9_isWithin_b14 M) else (f_X9_isWithin_b15 1 M)) else none)) else none) else none
def f_X9_copyRow (a0 : Nat) (n0 : Nat) (a1 : Nat) (n1 : Nat) (M : Mem) : Option (Int × Mem) :=
  if inR ((n0 : Nat) : Int) then (if inR ((n1 : Nat) : Int) then (if (0 ≤ (0 : Int) ∧ 0 ≤ (0 : Int) ∧ 0 ≤ (imin ((n0 : Nat) : Int) ((n1 : Nat) : Int))) ∧ (0 : Int) + (imin ((n0 : Nat) : Int) ((n1 : Nat) : Int)) ≤ (n0 : Int) ∧ (0 : Int) + (imin ((n0 : Nat) : Int) ((n1 : Nat) : Int)) ≤ (n1 : Int) then (zlt (cpM M a0 0 a1 0 (imin ((n0 : Nat) : Int) ((n1 : Nat) : Int))) fun M4 => some (0, M4)) else none) else none) else none
def f_X0_copyFrom (k : Nat) (k1 : Nat) (M : Mem) : Option (Int × Mem) :=
  zbnd (f_X9_copyRow (k1 + 1) 16 (k + 1) 16 M) fun r3 M4 => zbnd (f_X9_copyRow (k1 + 2) 16 (k + 2) 16 M4) fun r8 M9 => zbnd (f_X9_copyRow (k1 + 3) 16 (k + 3) 16 M9) fun r13 M14 => zbnd (f_X9_copyRow (k1 + 4) 256 (k + 4) 256 M14) fun r18 M19 => some (0, M19)
def f_X2_copyFrom_b65 (k : Nat) (k1 : Nat) : Nat → Int → Mem → Option (Int × Mem)
  | 0, _, _ => none
  | n + 1, v2, M => if inR v2 then (if 8 ≤ v2 then (some (0, M)) else (if 0 ≤ v2 ∧ v2 < 8 then (if (M (k1 + 5) v2.toNat) = 0 ∨ (M (k1 + 5) v2.toNat) = 1 then (zlt (wr M (k + 5) v2.toNat (M (k1 + 5) v2.toNat)) fun M32 => f_X2_copyFrom_b65 k k1 n (v2 + 1) M32) else none) else none)) else none
def f_X2_copyFrom (k : Nat) (k1 : Nat) (M : Mem) : Option (Int × Mem) :=
  zlt (wr M k 0 (M k1 0)) fun M1 => zbnd (f_X9_copyRow (k1 + 1) 8 (k + 1) 8 M1) fun r4 M5 => zbnd (f_X9_copyRow (k1 + 2) 8 (k + 2) 8 M5) fun r9 M10 => zbnd (f_X9_copyRow (k1 + 3) 8 (k + 3) 8 M10) fun r14 M15 => zbnd (f_X9_copyRow (k1 + 4) 8 (k + 4) 8 M15) fun r19 M20 => zbnd (f_X9_copyRow (k1 + 6) 128 (k + 6) 128 M20) fun r24 M25 => f_X2_copyFrom_b65 k k1 100000 0 M25
def f_X3_copyFrom (k : Nat) (k1 : Nat) (M : Mem) : Option (Int × Mem) :=
  zlt (wr M k 0 (M k1 0)) fun M1 => zbnd (f_X9_copyRow (k1 + 1) 3 (k + 1) 3 M1) fun r4 M5 => zbnd (f_X9_copyRow (k1 + 2) 3 (k + 2) 3 M5) fun r9 M10 => some (0, M10)
def f_X4_copyFrom (k : Nat) (k1 : Nat) (M : Mem) : Option (Int × Mem) :=
  zlt (wr M k 0 (M k1 0)) fun M1 => zbnd (f_X9_copyRow (k1 + 1) 6 (k + 1) 6 M1) fun r4 M5 => zbnd (f_X9_copyRow (k1 + 2) 6 (k + 2) 6 M5) fun r9 M10 => zbnd (f_X9_copyRow (k1 + 3) 6 (k + 3) 6 M10) fun r14 M15 => zbnd (f_X9_copyRow (k1 + 4) 6 (k + 4) 6 M15) fun r19 M20 => zbnd (f_X9_copyRow (k1 + 5) 6 (k + 5) 6 M20) fun r24 M25 => zbnd (f_X9_copyRow (k1 + 6) 96 (k + 6) 96 M25) fun r29 M30 => some (0, M30)
def f_X8_copyFrom (k : Nat) (k1 : Nat) (M : Mem) : Option (Int × Mem) :=
  zbnd (f_X9_copyRow (k1 + 1) 128 (k + 1) 128 M) fun r3 M4 => zbnd (f_X9_copyRow (k1 + 2) 128 (k + 2) 128 M4) fun r8 M9 => some (0, M9)
def f_X7_copyFrom (k : Nat) (k1 : Nat) (M : Mem) : Option (Int × Mem) :=
  zlt (wr M k 0 (M k1 0)) fun M1 => zlt (wr M1 k 1 (M1 k1 1)) fun M2 => zlt (wr M2 k 2 (M2 k1 2)) fun M3 => zbnd (f_X9_copyRow (k1 + 1) 6 (k + 1) 6 M3) fun r6 M7 => zbnd (f_X9_copyRow (k1 + 2) 4 (k + 2) 4 M7) fun r11 M12 => zbnd (f_X2_copyFrom (k + 3) (k1 + 3) M12) fun r16 M17 => zbnd (f_X8_copyFrom (k + 10) (k1 + 10) M17) fun r21 M22 => zbnd (f_X0_copyFrom (k + 13) (k1 + 13) M22) fun r26 M27 => zbnd (f_X3_copyFrom (k + 18) (k1 + 18) M27) fun r31 M32 => zbnd (f_X4_copyFrom (k + 21) (k1 + 21) M32) fun r36 M37 => some (0, M37)
def f_X1_store_b53 (k1 : Nat) (M : Mem) : Option (Int × Mem) :=
  some (0, M)
def f_X1_store (k1 : Nat) (M : Mem) : Option (Int × Mem) :=
  if inR ((M 88 1) + (M 88 0)) then (if 0 ≤ (((M 88 1) + (M 88 0)).tmod 4) ∧ (((M 88 1) + (M 88 0)).tmod 4) < 4 then (zbnd (f_X7_copyFrom (90 + 29 * (((M 88 1) + (M 88 0)).tmod 4).toNat) k1 M) fun r3 M4 => if inR (M4 88 0) then (if 4 ≤ (M4 88 0) then (if inR ((M4 88 1) + 1) then (zlt (wr M4 88 1 (((M4 88 1) + 1).tmod 4)) fun M8 => f_X1_store_b53 k1 M8) else none) else (zlt (wr M4 88 0 ((M4 88 0) + 1)) fun M9 => f_X1_store_b53 k1 M9)) else none) else none) else none
def f_X2_found (k : Nat) (v1 : Int) (v2 : Int) (v3 : Int) (M : Mem) : Option (Int × Mem) :=
  zlt (M k 0) fun x1 => if 0 ≤ x1 ∧ x1 < 8 then (zlt (wr M (k + 1) x1.toNat v1) fun M4 => zlt (wr M4 (k + 2) x1.toNat v2) fun M6 => if v3 = 0 ∨ v3 = 1 then (zlt (wr M6 (k + 5) x1.toNat v3) fun M9 => zlt (wr M9 k 0 ((M9 k 0) + 1)) fun M10 => some (x1, M10)) else none) else none
def f_X9_addPasture_b20 (M : Mem) : Option (Int × Mem) :=
  some ((-2), M)
def f_X9_addPasture (v1 : Int) (v2 : Int) (v3 : Int) (M : Mem) : Option (Int × Mem) :=
  zbnd (f_X9_isWithin v1 0 90 M) fun r1 M2 => if inR r1 then (if r1 = 0 then (f_X9_addPasture_b20 M2) else (zbnd (f_X9_isWithin v2 1 16 M2) fun r5 M6 => if inR r5 then (if r5 = 0 then (f_X9_addPasture_b20 M6) else (if inR (M6 4 0) then (if (M6 4 0) < 8 then (zbnd (f_X1_store 1 M6) fun r10 M11 => zbnd (f_X2_found 4 v1 v2 v3 M11) fun r13 M14 => some (r13, M14)) else (some ((-3), M6))) else none)) else none)) else none
def f_X9_isPasture (v1 : Int) (M : Mem) : Option (Int × Mem) :=
  zbnd (f_X9_isWithin v1 0 ((M 4 0) - 1) M) fun r1 M2 => if r1 = 0 ∨ r1 = 1 then (some (r1, M2)) else none
def f_X9_cell (v0 : Int) (v1 : Int) (M : Mem) : Option (Int × Mem) :=
  some ((v0 * 16) + v1, M)
def f_X4_join_b14 (k : Nat) : Nat → Int → Int → Int → Mem → Option (Int × Mem)
  | 0, _, _, _, _ => none
  | n + 1, v1, v2, v3, M => if inR v3 then (if 16 ≤ v3 then (zlt (wr M k 0 ((M k 0) + 1)) fun M6 => some (v2, M6)) else (zbnd (f_X9_cell v2 v3 M) fun r8 M9 => if 0 ≤ r8 ∧ r8 < 96 then (zlt (wr M9 (k + 6) r8.toNat v1) fun M12 => f_X4_join_b14 k n v1 v2 (v3 + 1) M12) else none)) else none
def f_X4_join (k : Nat) (v1 : Int) (M : Mem) : Option (Int × Mem) :=
  zlt (M k 0) fun x1 => if 0 ≤ x1 ∧ x1 < 6 then (zlt (wr M (k + 1) x1.toNat v1) fun M4 => f_X4_join_b14 k 100000 v1 x1 0 M4) else none
def f_X9_addReader (v1 : Int) (M : Mem) : Option (Int × Mem) :=
  zbnd (f_X9_isPasture v1 M) fun r1 M2 => if inR r1 then (if r1 = 0 then (some ((-1), M2)) else (if inR (M2 22 0) then (if (M2 22 0) < 6 then (zbnd (f_X1_store 1 M2) fun r6 M7 => zbnd (f_X4_join 22 v1 M7) fun r9 M10 => some (r9, M10)) else (some ((-3), M2))) else none)) else none
def f_X3_join (k : Nat) (v1 : Int) (v2 : Int) (M : Mem) : Option (Int × Mem) :=
  zlt (M k 0) fun x1 => if 0 ≤ x1 ∧ x1 < 3 then (zlt (wr M (k + 1) x1.toNat v1) fun M4 => zlt (wr M4 (k + 2) x1.toNat v2) fun M6 => zlt (wr M6 k 0 ((M6 k 0) + 1)) fun M7 => some (x1, M7)) else none
def f_X9_addWolf (v1 : Int) (v2 : Int) (M : Mem) : Option (Int × Mem) :=
  zbnd (f_X9_isPasture v1 M) fun r1 M2 => if inR r1 then (if r1 = 0 then (some ((-1), M2)) else (zbnd (f_X9_isWithin v2 1 7 M2) fun r5 M6 => if inR r5 then (if r5 = 0 then (some ((-2), M6)) else (if inR (M6 19 0) then (if (M6 19 0) < 3 then (zbnd (f_X1_store 1 M6) fun r10 M11 => zbnd (f_X3_join 19 v1 v2 M11) fun r13 M14 => some (r13, M14)) else (some ((-3), M6))) else none)) else none)) else none
def f_X9_clearText (M : Mem) : Option (Int × Mem) :=
  zlt (M 210 0) fun x1 => zlt (wr M 210 0 0) fun M2 => some (x1, M2)
def f_X9_sum_b27 (a0 : Nat) (n0 : Nat) (v2 : Int) (M : Mem) : Option (Int × Mem) :=
  some (v2, M)
def f_X9_sum_b4 (a0 : Nat) (n0 : Nat) : Nat → Int → Int → Int → Mem → Option (Int × Mem)
  | 0, _, _, _, _ => none
  | n + 1, v1, v2, v3, M => if inR v3 then (if inR v1 then (if v1 ≤ v3 then (f_X9_sum_b27 a0 n0 v2 M) else (if inR ((n0 : Nat) : Int) then (if ((n0 : Nat) : Int) ≤ v3 then (f_X9_sum_b27 a0 n0 v2 M) else (if 0 ≤ v3 ∧ v3 < (n0 : Int) then (zlt (v2 + (M a0 v3.toNat)) fun x5 => f_X9_sum_b4 a0 n0 n v1 x5 (v3 + 1) M) else none)) else none)) else none) else none
def f_X9_sum (a0 : Nat) (n0 : Nat) (v1 : Int) (M : Mem) : Option (Int × Mem) :=
  f_X9_sum_b4 a0 n0 100000 v1 0 0 M
def f_X2_inns_b24 (g4 : Int → Int → Mem → Option (Int × Mem)) (k : Nat) (v1 : Int) (v2 : Int) (M : Mem) : Option (Int × Mem) :=
  g4 v1 (v2 + 1) M
def f_X2_inns_b4 (k : Nat) : Nat → Int → Int → Mem → Option (Int × Mem)
  | 0, _, _, _ => none
  | n + 1, v1, v2, M => if inR v2 then (if inR (M k 0) then (if (M k 0) ≤ v2 then (some (v1, M)) else (if 0 ≤ v2 ∧ v2 < 8 then (if inR (M (k + 5) v2.toNat) then (if (M (k + 5) v2.toNat) = 0 then (f_X2_inns_b24 (f_X2_inns_b4 k n) k v1 v2 M) else (f_X2_inns_b24 (f_X2_inns_b4 k n) k (v1 + 1) v2 M)) else none) else none)) else none) else none
def f_X2_inns (k : Nat) (M : Mem) : Option (Int × Mem) :=
  f_X2_inns_b4 k 100000 0 0 M
def f_X7_season_b23 (k : Nat) (t1 : Int) (M : Mem) : Option (Int × Mem) :=
  some (t1, M)
def f_X7_season (k : Nat) (M : Mem) : Option (Int × Mem) :=
  zlt (M (k + 1) 0) fun x2 => if inR x2 then (if x2 ≤ 0 then (f_X7_season_b23 k 0 M) else (if inR (M k 0) then (if x2 ≠ 0 then (if inR ((M k 0).tdiv x2) then (f_X7_season_b23 k (((M k 0).tdiv x2).tmod 4) M) else none) else none) else none)) else none
def f_X7_seasonLatitude (k : Nat) (M : Mem) : Option (Int × Mem) :=
  zbnd (f_X7_season k M) fun r2 M3 => if 0 ≤ r2 ∧ r2 < 4 then (some (M3 (k + 2) r2.toNat, M3)) else none
def f_X8_isAt_b20 (k : Nat) (t1 : Int) (M : Mem) : Option (Int × Mem) :=
  if t1 = 0 ∨ t1 = 1 then (some (t1, M)) else none
def f_X8_isAt (k : Nat) (v1 : Int) (v2 : Int) (M : Mem) : Option (Int × Mem) :=
  zbnd (f_X9_cell v1 v2 M) fun r2 M3 => if 0 ≤ r2 ∧ r2 < 128 then (if inR (M3 (k + 1) r2.toNat) then (if (M3 (k + 1) r2.toNat) = (-5) then (f_X8_isAt_b20 k 0 M3) else (f_X8_isAt_b20 k 1 M3)) else none) else none
def f_X8_countIn_b22 (g4 : Int → Int → Int → Mem → Option (Int × Mem)) (k : Nat) (v1 : Int) (v2 : Int) (v3 : Int) (M : Mem) : Option (Int × Mem) :=
  g4 v1 v2 (v3 + 1) M
def f_X8_countIn_b4 (k : Nat) : Nat → Int → Int → Int → Mem → Option (Int × Mem)
  | 0, _, _, _, _ => none
  | n + 1, v1, v2, v3, M => if inR v3 then (if 16 ≤ v3 then (some (v2, M)) else (zbnd (f_X8_isAt k v1 v3 M) fun r2 M3 => if inR r2 then (if r2 = 0 then (f_X8_countIn_b22 (f_X8_countIn_b4 k n) k v1 v2 v3 M3) else (f_X8_countIn_b22 (f_X8_countIn_b4 k n) k v1 (v2 + 1) v3 M3)) else none)) else none
def f_X8_countIn (k : Nat) (v1 : Int) (M : Mem) : Option (Int × Mem) :=
  f_X8_countIn_b4 k 100000 v1 0 0 M
def f_X8_countAll_b4 (k : Nat) : Nat → Int → Int → Mem → Option (Int × Mem)
  | 0, _, _, _ => none
  | n + 1, v1, v2, M => if inR v2 then (if 8 ≤ v2 then (some (v1, M)) else (zbnd (f_X8_countIn k v2 M) fun r2 M3 => zlt (v1 + r2) fun x5 => f_X8_countAll_b4 k n x5 (v2 + 1) M3)) else none
def f_X8_countAll (k : Nat) (M : Mem) : Option (Int × Mem) :=
  f_X8_countAll_b4 k 100000 0 0 M
def f_X9_count (v1 : Int) (M : Mem) : Option (Int × Mem) :=
  if inR v1 then (if v1 = 0 then (some (M 1 0, M)) else if v1 = 1 then (zbnd (f_X7_season 1 M) fun r3 M4 => some (r3, M4)) else if v1 = 2 then (zbnd (f_X7_seasonLatitude 1 M) fun r7 M8 => some (r7, M8)) else if v1 = 3 then (some (M 4 0, M)) else if v1 = 4 then (zbnd (f_X2_inns 4 M) fun r12 M13 => some (r12, M13)) else if v1 = 5 then (some (M 19 0, M)) else if v1 = 6 then (some (M 22 0, M)) else if v1 = 7 then (zbnd (f_X8_countAll 11 M) fun r18 M19 => some (r18, M19)) else if v1 = 8 then (zbnd (f_X9_sum 17 16 16 M) fun r22 M23 => some (r22, M23)) else if v1 = 9 then (some (M 1 1, M)) else if v1 = 10 then (some (M 1 2, M)) else if v1 = 11 then (zbnd (f_X9_sum 24 6 (M 22 0) M) fun r28 M29 => some (r28, M29)) else if v1 = 12 then (zbnd (f_X9_sum 26 6 (M 22 0) M) fun r32 M33 => some (r32, M33)) else if v1 = 13 then (some (M 88 0, M)) else if v1 = 14 then (some (M 210 0, M)) else (some ((-2), M))) else none
def f_X8_removeLeftUntil_b53 (g5 : Int → Int → Int → Int → Mem → Option (Int × Mem)) (k : Nat) (v1 : Int) (v2 : Int) (v3 : Int) (v4 : Int) (M : Mem) : Option (Int × Mem) :=
  g5 v1 v2 v3 (v4 + 1) M
def f_X8_removeLeftUntil_b5 (k : Nat) : Nat → Int → Int → Int → Int → Mem → Option (Int × Mem)
  | 0, _, _, _, _, _ => none
  | n + 1, v1, v2, v3, v4, M => if inR v4 then (if 16 ≤ v4 then (some (v3, M)) else (zbnd (f_X8_isAt k v2 v4 M) fun r2 M3 => if inR r2 then (if r2 = 0 then (f_X8_removeLeftUntil_b53 (f_X8_removeLeftUntil_b5 k n) k v1 v2 v3 v4 M3) else (zbnd (f_X9_cell v2 v4 M3) fun r7 M8 => if 0 ≤ r7 ∧ r7 < 128 then (if inR (M8 (k + 2) r7.toNat) then (if inR v1 then (if v1 < (M8 (k + 2) r7.toNat) then (f_X8_removeLeftUntil_b53 (f_X8_removeLeftUntil_b5 k n) k v1 v2 v3 v4 M8) else (zbnd (f_X9_cell v2 v4 M8) fun r14 M15 => if 0 ≤ r14 ∧ r14 < 128 then (zlt (wr M15 (k + 1) r14.toNat (-5)) fun M18 => f_X8_removeLeftUntil_b53 (f_X8_removeLeftUntil_b5 k n) k v1 v2 (v3 + 1) v4 M18) else none)) else none) else none) else none)) else none)) else none
def f_X8_removeLeftUntil (k : Nat) (v1 : Int) (v2 : Int) (M : Mem) : Option (Int × Mem) :=
  f_X8_removeLeftUntil_b5 k 100000 v1 v2 0 0 M
def f_X7_letWolfCut_b38 (k : Nat) (t1 : Int) (M : Mem) : Option (Int × Mem) :=
  zlt (wr M k 1 ((M k 1) + t1)) fun M14 => some (t1, M14)
def f_X7_letWolfCut (k : Nat) (v1 : Int) (M : Mem) : Option (Int × Mem) :=
  if 0 ≤ v1 ∧ v1 < 3 then (zlt (M (k + 19) v1.toNat) fun x4 => if 0 ≤ x4 ∧ x4 < 8 then (if inR (M (k + 8) x4.toNat) then (if (M (k + 8) x4.toNat) = 0 then (zbnd (f_X8_removeLeftUntil (k + 10) (M k 0) x4 M) fun r10 M11 => f_X7_letWolfCut_b38 k r10 M11) else (f_X7_letWolfCut_b38 k 0 M)) else none) else none) else none
def f_X7_tracksInReach_b34 (k : Nat) (t1 : Int) (M : Mem) : Option (Int × Mem) :=
  some (t1, M)
def f_X7_tracksInReach (k : Nat) (v1 : Int) (M : Mem) : Option (Int × Mem) :=
  if 0 ≤ v1 ∧ v1 < 3 then (zlt (M (k + 19) v1.toNat) fun x4 => if 0 ≤ x4 ∧ x4 < 8 then (if inR (M (k + 8) x4.toNat) then (if (M (k + 8) x4.toNat) = 0 then (zbnd (f_X8_countIn (k + 10) x4 M) fun r10 M11 => f_X7_tracksInReach_b34 k r10 M11) else (f_X7_tracksInReach_b34 k 0 M)) else none) else none) else none
def f_X9_cut (v1 : Int) (M : Mem) : Option (Int × Mem) :=
  zbnd (f_X9_isWithin v1 0 ((M 19 0) - 1) M) fun r1 M2 => if inR r1 then (if r1 = 0 then (some ((-1), M2)) else (zbnd (f_X7_tracksInReach 1 v1 M2) fun r5 M6 => if inR r5 then (if 1 ≤ r5 then (zbnd (f_X1_store 1 M6) fun r9 M10 => zbnd (f_X7_letWolfCut 1 v1 M10) fun r12 M13 => some (r12, M13)) else (some ((-5), M6))) else none)) else none
def f_X9_driveWolf (M : Mem) : Option (Int × Mem) :=
  if inR (M 19 0) then (if 1 ≤ (M 19 0) then (zbnd (f_X1_store 1 M) fun r2 M3 => zlt (wr M3 19 0 ((M3 19 0) - 1)) fun M5 => some (M5 19 0, M5)) else (some ((-5), M))) else none
def f_X9_isKey (v0 : Int) (M : Mem) : Option (Int × Mem) :=
  zbnd (f_X9_isWithin v0 0 255 M) fun r1 M2 => if r1 = 0 ∨ r1 = 1 then (some (r1, M2)) else none
def f_X9_isReader (v1 : Int) (M : Mem) : Option (Int × Mem) :=
  zbnd (f_X9_isWithin v1 0 ((M 22 0) - 1) M) fun r1 M2 => if r1 = 0 ∨ r1 = 1 then (some (r1, M2)) else none
def f_X9_isShard (v0 : Int) (M : Mem) : Option (Int × Mem) :=
  zbnd (f_X9_isWithin v0 0 15 M) fun r1 M2 => if r1 = 0 ∨ r1 = 1 then (some (r1, M2)) else none
def f_X9_keep (M : Mem) : Option (Int × Mem) :=
  zbnd (f_X7_copyFrom 59 1 M) fun r1 M2 => zlt (wr M2 0 6 1) fun M4 => some (M4 1 0, M4)
def f_X2_hasRoom_b20 (k : Nat) (t1 : Int) (M : Mem) : Option (Int × Mem) :=
  if t1 = 0 ∨ t1 = 1 then (some (t1, M)) else none
def f_X2_hasRoom (k : Nat) (v1 : Int) (M : Mem) : Option (Int × Mem) :=
  if 0 ≤ v1 ∧ v1 < 8 then (if inR (M (k + 3) v1.toNat) then (if inR (M (k + 2) v1.toNat) then (if (M (k + 2) v1.toNat) ≤ (M (k + 3) v1.toNat) then (f_X2_hasRoom_b20 k 0 M) else (f_X2_hasRoom_b20 k 1 M)) else none) else none) else none
def f_X8_leave (k : Nat) (v1 : Int) (v2 : Int) (v3 : Int) (v4 : Int) (M : Mem) : Option (Int × Mem) :=
  zbnd (f_X9_cell v2 v1 M) fun r2 M3 => if 0 ≤ r2 ∧ r2 < 128 then (zlt (wr M3 (k + 1) r2.toNat v3) fun M6 => zbnd (f_X9_cell v2 v1 M6) fun r8 M9 => if 0 ≤ r8 ∧ r8 < 128 then (zlt (wr M9 (k + 2) r8.toNat v4) fun M12 => zbnd (f_X9_cell v3 v1 M12) fun r13 M14 => if 0 ≤ r13 ∧ r13 < 128 then (zlt (wr M14 (k + 1) r13.toNat (-5)) fun M17 => some (0, M17)) else none) else none) else none
def f_X7_drive (k : Nat) (v1 : Int) (v2 : Int) (M : Mem) : Option (Int × Mem) :=
  if 0 ≤ v1 ∧ v1 < 16 then (zlt (M (k + 14) v1.toNat) fun x4 => zbnd (f_X8_leave (k + 10) v1 x4 v2 (M k 0) M) fun r6 M7 => zlt (wr M7 (k + 14) v1.toNat v2) fun M9 => zlt (wr M9 (k + 16) v1.toNat ((M9 (k + 16) v1.toNat) + 1)) fun M11 => if 0 ≤ x4 ∧ x4 < 8 then (zlt (wr M11 (k + 6) x4.toNat ((M11 (k + 6) x4.toNat) - 1)) fun M15 => if 0 ≤ v2 ∧ v2 < 8 then (zlt (wr M15 (k + 6) v2.toNat ((M15 (k + 6) v2.toNat) + 1)) fun M17 => some (0, M17)) else none) else none) else none
def f_X9_move_b15 (M : Mem) : Option (Int × Mem) :=
  some ((-1), M)
def f_X9_move (v1 : Int) (v2 : Int) (M : Mem) : Option (Int × Mem) :=
  zbnd (f_X9_isShard v1 M) fun r1 M2 => if inR r1 then (if r1 = 0 then (f_X9_move_b15 M2) else (zbnd (f_X9_isPasture v2 M2) fun r5 M6 => if inR r5 then (if r5 = 0 then (f_X9_move_b15 M6) else (if 0 ≤ v1 ∧ v1 < 16 then (zlt (M6 15 v1.toNat) fun x10 => if inR x10 then (if inR v2 then (if x10 = v2 then (some ((-5), M6)) else (zbnd (f_X2_hasRoom 4 v2 M6) fun r13 M14 => if inR r13 then (if r13 = 0 then (some ((-3), M14)) else (zbnd (f_X1_store 1 M14) fun r17 M18 => zbnd (f_X7_drive 1 v1 v2 M18) fun r20 M21 => some (x10, M21))) else none)) else none) else none) else none)) else none)) else none
def f_X0_cool_b2 (k : Nat) : Nat → Int → Mem → Option (Int × Mem)
  | 0, _, _ => none
  | n + 1, v1, M => if inR v1 then (if 16 ≤ v1 then (some (0, M)) else (if 0 ≤ v1 ∧ v1 < 16 then (if inR ((M (k + 2) v1.toNat) * 3) then (zlt (wr M (k + 2) v1.toNat (((M (k + 2) v1.toNat) * 3).tdiv 4)) fun M5 => f_X0_cool_b2 k n (v1 + 1) M5) else none) else none)) else none
def f_X0_cool (k : Nat) (M : Mem) : Option (Int × Mem) :=
  f_X0_cool_b2 k 100000 0 M
def f_X0_isAskedBefore_b40 (k : Nat) (t1 : Int) (M : Mem) : Option (Int × Mem) :=
  if t1 = 0 ∨ t1 = 1 then (some (t1, M)) else none
def f_X0_isAskedBefore_b35 (k : Nat) (M : Mem) : Option (Int × Mem) :=
  f_X0_isAskedBefore_b40 k 1 M
def f_X0_isAskedBefore_b39 (k : Nat) (M : Mem) : Option (Int × Mem) :=
  f_X0_isAskedBefore_b40 k 0 M
def f_X0_isAskedBefore (k : Nat) (v1 : Int) (v2 : Int) (M : Mem) : Option (Int × Mem) :=
  if 0 ≤ v1 ∧ v1 < 16 then (if 0 ≤ v2 ∧ v2 < 16 then (if inR (M (k + 2) v1.toNat) then (if inR (M (k + 2) v2.toNat) then (if (M (k + 2) v2.toNat) < (M (k + 2) v1.toNat) then (f_X0_isAskedBefore_b35 k M) else (if (M (k + 2) v1.toNat) = (M (k + 2) v2.toNat) then (if inR v1 then (if inR v2 then (if v2 ≤ v1 then (f_X0_isAskedBefore_b39 k M) else (f_X0_isAskedBefore_b35 k M)) else none) else none) else (f_X0_isAskedBefore_b39 k M))) else none) else none) else none) else none
def f_X0_sortByHeat_b41 (g2 : Int → Mem → Option (Int × Mem)) (k : Nat) (a1 : Nat) (n1 : Nat) (v2 : Int) (v3 : Int) (M : Mem) : Option (Int × Mem) :=
  if 0 ≤ v3 ∧ v3 < (n1 : Int) then (zlt (wr M a1 v3.toNat v2) fun M14 => g2 (v2 + 1) M14) else none
def f_X0_sortByHeat_b10 (g2 : Int → Mem → Option (Int × Mem)) (k : Nat) (a1 : Nat) (n1 : Nat) : Nat → Int → Int → Mem → Option (Int × Mem)
  | 0, _, _, _ => none
  | n + 1, v2, v3, M => if inR v3 then (if v3 ≤ 0 then (f_X0_sortByHeat_b41 g2 k a1 n1 v2 v3 M) else (if 0 ≤ (v3 - 1) ∧ (v3 - 1) < (n1 : Int) then (zbnd (f_X0_isAskedBefore k v2 (M a1 (v3 - 1).toNat) M) fun r5 M6 => if inR r5 then (if r5 = 0 then (f_X0_sortByHeat_b41 g2 k a1 n1 v2 v3 M6) else (if 0 ≤ v3 ∧ v3 < (n1 : Int) then (zlt (wr M6 a1 v3.toNat (M6 a1 (v3 - 1).toNat)) fun M10 => f_X0_sortByHeat_b10 g2 k a1 n1 n v2 (v3 + (-1)) M10) else none)) else none) else none)) else none
def f_X0_sortByHeat_b2 (k : Nat) (a1 : Nat) (n1 : Nat) : Nat → Int → Mem → Option (Int × Mem)
  | 0, _, _ => none
  | n + 1, v2, M => if inR v2 then (if 16 ≤ v2 then (some (0, M)) else (f_X0_sortByHeat_b10 (f_X0_sortByHeat_b2 k a1 n1 n) k a1 n1 100000 v2 v2 M)) else none
def f_X0_sortByHeat (k : Nat) (a1 : Nat) (n1 : Nat) (M : Mem) : Option (Int × Mem) :=
  f_X0_sortByHeat_b2 k a1 n1 100000 0 M
def f_X2_distance (k : Nat) (v1 : Int) (v2 : Int) (M : Mem) : Option (Int × Mem) :=
  if 0 ≤ v1 ∧ v1 < 8 then (if inR ((M (k + 1) v1.toNat) - v2) then (some (iabs ((M (k + 1) v1.toNat) - v2), M)) else none) else none
def f_X2_bestOther_b58 (g10 : Int → Int → Int → Int → Int → Mem → Option (Int × Mem)) (k : Nat) (v1 : Int) (v2 : Int) (v3 : Int) (v4 : Int) (v5 : Int) (M : Mem) : Option (Int × Mem) :=
  g10 v1 v2 v3 v4 (v5 + 1) M
def f_X2_bestOther_b10 (k : Nat) : Nat → Int → Int → Int → Int → Int → Mem → Option (Int × Mem)
  | 0, _, _, _, _, _, _ => none
  | n + 1, v1, v2, v3, v4, v5, M => if inR v5 then (if inR (M k 0) then (if (M k 0) ≤ v5 then (some (v3, M)) else (if inR v1 then (if v5 = v1 then (f_X2_bestOther_b58 (f_X2_bestOther_b10 k n) k v1 v2 v3 v4 v5 M) else (zbnd (f_X2_hasRoom k v5 M) fun r4 M5 => if inR r4 then (if r4 = 0 then (f_X2_bestOther_b58 (f_X2_bestOther_b10 k n) k v1 v2 v3 v4 v5 M5) else (zbnd (f_X2_distance k v5 v2 M5) fun r8 M9 => if inR r8 then (if inR v4 then (if v4 ≤ r8 then (f_X2_bestOther_b58 (f_X2_bestOther_b10 k n) k v1 v2 v3 v4 v5 M9) else (zbnd (f_X2_distance k v5 v2 M9) fun r13 M14 => f_X2_bestOther_b58 (f_X2_bestOther_b10 k n) k v1 v2 v5 r13 v5 M14)) else none) else none)) else none)) else none)) else none) else none
def f_X2_bestOther (k : Nat) (v1 : Int) (v2 : Int) (M : Mem) : Option (Int × Mem) :=
  f_X2_bestOther_b10 k 100000 v1 v2 (-5) 91 0 M
def f_X7_driveHerd_b116 (g20 : Int → Int → Int → Mem → Option (Int × Mem)) (k : Nat) (v1 : Int) (v2 : Int) (v3 : Int) (M : Mem) : Option (Int × Mem) :=
  g20 v1 v2 (v3 + 1) M
def f_X7_driveHerd_b122 (k : Nat) (v1 : Int) (M : Mem) : Option (Int × Mem) :=
  some (v1, M)
def f_X7_driveHerd_b20 (k : Nat) : Nat → Int → Int → Int → Mem → Option (Int × Mem)
  | 0, _, _, _, _ => none
  | n + 1, v1, v2, v3, M => if inR v3 then (if 16 ≤ v3 then (f_X7_driveHerd_b122 k v1 M) else (if inR v1 then (if inR (M (k + 1) 3) then (if (M (k + 1) 3) ≤ v1 then (f_X7_driveHerd_b122 k v1 M) else (if 0 ≤ v3 ∧ v3 < 16 then (zlt (M (k + 28) v3.toNat) fun x15 => if 0 ≤ x15 ∧ x15 < 16 then (zlt (M (k + 14) x15.toNat) fun x19 => zbnd (f_X2_bestOther (k + 3) x19 v2 M) fun r21 M22 => if inR r21 then (if r21 = (-5) then (f_X7_driveHerd_b116 (f_X7_driveHerd_b20 k n) k v1 v2 v3 M22) else (zbnd (f_X2_distance (k + 3) x19 v2 M22) fun r25 M26 => zbnd (f_X2_distance (k + 3) r21 v2 M26) fun r28 M29 => if inR (r25 - r28) then (if inR (M29 (k + 1) 2) then (if (r25 - r28) < (M29 (k + 1) 2) then (f_X7_driveHerd_b116 (f_X7_driveHerd_b20 k n) k v1 v2 v3 M29) else (zbnd (f_X7_drive k x15 r21 M29) fun r33 M34 => f_X7_driveHerd_b116 (f_X7_driveHerd_b20 k n) k (v1 + 1) v2 v3 M34)) else none) else none)) else none) else none) else none)) else none) else none)) else none
def f_X7_driveHerd (k : Nat) (M : Mem) : Option (Int × Mem) :=
  zbnd (f_X7_seasonLatitude k M) fun r1 M2 => zbnd (f_X0_sortByHeat (k + 13) (k + 28) 16 M2) fun r6 M7 => f_X7_driveHerd_b20 k 100000 0 r1 0 M7
def f_X7_passDayOfHerd (k : Nat) (M : Mem) : Option (Int × Mem) :=
  zbnd (f_X0_cool (k + 13) M) fun r2 M3 => zbnd (f_X7_driveHerd k M3) fun r5 M6 => zlt (wr M6 k 0 ((M6 k 0) + 1)) fun M8 => some (0, M8)
def f_X9_movesIn_b35 : Nat → Int → Int → Int → Mem → Option (Int × Mem)
  | 0, _, _, _, _ => none
  | n + 1, v1, v2, v3, M => if inR v3 then (if 60 < v3 then (some ((-5), M)) else (zbnd (f_X7_passDayOfHerd 30 M) fun r12 M13 => if 0 ≤ v1 ∧ v1 < 16 then (if inR (M13 46 v1.toNat) then (if inR v2 then (if (M13 46 v1.toNat) = v2 then (f_X9_movesIn_b35 n v1 v2 (v3 + 1) M13) else (some (v3, M13))) else none) else none) else none)) else none
def f_X9_movesIn (v1 : Int) (M : Mem) : Option (Int × Mem) :=
  zbnd (f_X9_isShard v1 M) fun r1 M2 => if inR r1 then (if r1 = 0 then (some ((-1), M2)) else (zbnd (f_X7_copyFrom 30 1 M2) fun r5 M6 => if 0 ≤ v1 ∧ v1 < 16 then (zlt (M6 46 v1.toNat) fun x9 => f_X9_movesIn_b35 100000 v1 x9 1 M6) else none)) else none
def f_X2_tellAll_b35 (g2 : Int → Mem → Option (Int × Mem)) (k : Nat) (a1 : Nat) (n1 : Nat) (v2 : Int) (M : Mem) : Option (Int × Mem) :=
  g2 (v2 + 1) M
def f_X2_tellAll_b2 (k : Nat) (a1 : Nat) (n1 : Nat) : Nat → Int → Mem → Option (Int × Mem)
  | 0, _, _ => none
  | n + 1, v2, M => if inR v2 then (if inR (M k 0) then (if (M k 0) ≤ v2 then (some (0, M)) else (if 0 ≤ v2 ∧ v2 < 8 then (if inR (M (k + 5) v2.toNat) then (if (M (k + 5) v2.toNat) = 0 then (f_X2_tellAll_b35 (f_X2_tellAll_b2 k a1 n1 n) k a1 n1 v2 M) else (zbnd (f_X9_cell v2 0 M) fun r7 M8 => if (0 ≤ (0 : Int) ∧ 0 ≤ r7 ∧ 0 ≤ (16 : Int)) ∧ (0 : Int) + (16 : Int) ≤ (n1 : Int) ∧ r7 + (16 : Int) ≤ 128 then (zlt (cpM M8 a1 0 (k + 6) r7 16) fun M11 => f_X2_tellAll_b35 (f_X2_tellAll_b2 k a1 n1 n) k a1 n1 v2 M11) else none)) else none) else none)) else none) else none
def f_X2_tellAll (k : Nat) (a1 : Nat) (n1 : Nat) (M : Mem) : Option (Int × Mem) :=
  f_X2_tellAll_b2 k a1 n1 100000 0 M
def f_X7_letInnsPost (k : Nat) (M : Mem) : Option (Int × Mem) :=
  zbnd (f_X2_tellAll (k + 3) (k + 14) 16 M) fun r4 M5 => some (0, M5)
def f_X7_letInnsPostOnTheirDay_b26 (k : Nat) (M : Mem) : Option (Int × Mem) :=
  some (0, M)
def f_X7_letInnsPostOnTheirDay (k : Nat) (M : Mem) : Option (Int × Mem) :=
  zlt (M (k + 1) 4) fun x2 => if inR x2 then (if x2 ≤ 0 then (f_X7_letInnsPostOnTheirDay_b26 k M) else (if inR ((M k 0) + 1) then (if x2 ≠ 0 then (if inR (((M k 0) + 1).tmod x2) then (if (((M k 0) + 1).tmod x2) = 0 then (zbnd (f_X7_letInnsPost k M) fun r7 M8 => f_X7_letInnsPostOnTheirDay_b26 k M8) else (f_X7_letInnsPostOnTheirDay_b26 k M)) else none) else none) else none)) else none
def f_X7_letTracksGrowOver_b53 (g2 : Int → Mem → Option (Int × Mem)) (k : Nat) (v1 : Int) (M : Mem) : Option (Int × Mem) :=
  g2 (v1 + 1) M
def f_X7_letTracksGrowOver_b2 (k : Nat) : Nat → Int → Mem → Option (Int × Mem)
  | 0, _, _ => none
  | n + 1, v1, M => if inR v1 then (if inR (M (k + 3) 0) then (if (M (k + 3) 0) ≤ v1 then (some (0, M)) else (if 0 ≤ v1 ∧ v1 < 8 then (if inR (M (k + 8) v1.toNat) then (if (M (k + 8) v1.toNat) = 0 then (zbnd (f_X8_removeLeftUntil (k + 10) ((M k 0) - (M (k + 1) 1)) v1 M) fun r9 M10 => zlt (wr M10 k 2 ((M k 2) + r9)) fun M12 => f_X7_letTracksGrowOver_b53 (f_X7_letTracksGrowOver_b2 k n) k v1 M12) else (f_X7_letTracksGrowOver_b53 (f_X7_letTracksGrowOver_b2 k n) k v1 M)) else none) else none)) else none) else none
def f_X7_letTracksGrowOver (k : Nat) (M : Mem) : Option (Int × Mem) :=
  f_X7_letTracksGrowOver_b2 k 100000 0 M
def f_X3_advance_b25 (k : Nat) (M : Mem) : Option (Int × Mem) :=
  some (0, M)
def f_X3_advance (k : Nat) (v1 : Int) (v2 : Int) (M : Mem) : Option (Int × Mem) :=
  if inR v2 then (if v2 ≤ 0 then (f_X3_advance_b25 k M) else (if 0 ≤ v1 ∧ v1 < 3 then (if inR ((M (k + 1) v1.toNat) + (M (k + 2) v1.toNat)) then (if v2 ≠ 0 then (zlt (wr M (k + 1) v1.toNat (((M (k + 1) v1.toNat) + (M (k + 2) v1.toNat)).tmod v2)) fun M7 => f_X3_advance_b25 k M7) else none) else none) else none)) else none
def f_X7_letWolvesGo_b2 (k : Nat) : Nat → Int → Mem → Option (Int × Mem)
  | 0, _, _ => none
  | n + 1, v1, M => if inR v1 then (if inR (M (k + 18) 0) then (if (M (k + 18) 0) ≤ v1 then (some (0, M)) else (zbnd (f_X3_advance (k + 18) v1 (M (k + 3) 0) M) fun r5 M6 => zbnd (f_X7_letWolfCut k v1 M6) fun r8 M9 => f_X7_letWolvesGo_b2 k n (v1 + 1) M9)) else none) else none
def f_X7_letWolvesGo (k : Nat) (M : Mem) : Option (Int × Mem) :=
  f_X7_letWolvesGo_b2 k 100000 0 M
def f_X7_passDay (k : Nat) (M : Mem) : Option (Int × Mem) :=
  zbnd (f_X0_cool (k + 13) M) fun r2 M3 => zbnd (f_X7_letWolvesGo k M3) fun r5 M6 => zbnd (f_X7_letTracksGrowOver k M6) fun r8 M9 => zbnd (f_X7_driveHerd k M9) fun r11 M12 => zbnd (f_X7_letInnsPostOnTheirDay k M12) fun r14 M15 => zlt (wr M15 k 0 ((M15 k 0) + 1)) fun M17 => some (r11, M17)
def f_X9_pass_b46 : Nat → Int → Int → Int → Mem → Option (Int × Mem)
  | 0, _, _, _, _ => none
  | n + 1, v1, v2, v3, M => if inR v3 then (if inR v1 then (if v1 ≤ v3 then (some (v2, M)) else (zbnd (f_X7_passDay 1 M) fun r13 M14 => zlt (v2 + r13) fun x16 => f_X9_pass_b46 n v1 x16 (v3 + 1) M14)) else none) else none
def f_X9_pass (v1 : Int) (M : Mem) : Option (Int × Mem) :=
  zbnd (f_X9_isWithin v1 1 60 M) fun r1 M2 => if inR r1 then (if r1 = 0 then (some ((-2), M2)) else (if inR ((M2 1 0) + v1) then (if ((M2 1 0) + v1) ≤ 9999 then (zbnd (f_X1_store 1 M2) fun r6 M7 => f_X9_pass_b46 100000 v1 0 0 M7) else (some ((-4), M2))) else none)) else none
def f_X0_heatIn_b29 (g4 : Int → Int → Int → Mem → Option (Int × Mem)) (k : Nat) (v1 : Int) (v2 : Int) (v3 : Int) (M : Mem) : Option (Int × Mem) :=
  g4 v1 v2 (v3 + 1) M
def f_X0_heatIn_b4 (k : Nat) : Nat → Int → Int → Int → Mem → Option (Int × Mem)
  | 0, _, _, _, _ => none
  | n + 1, v1, v2, v3, M => if inR v3 then (if 16 ≤ v3 then (some (v2, M)) else (if 0 ≤ v3 ∧ v3 < 16 then (if inR (M (k + 1) v3.toNat) then (if inR v1 then (if (M (k + 1) v3.toNat) = v1 then (zlt (v2 + (M (k + 2) v3.toNat)) fun x7 => f_X0_heatIn_b29 (f_X0_heatIn_b4 k n) k v1 x7 v3 M) else (f_X0_heatIn_b29 (f_X0_heatIn_b4 k n) k v1 v2 v3 M)) else none) else none) else none)) else none
def f_X0_heatIn (k : Nat) (v1 : Int) (M : Mem) : Option (Int × Mem) :=
  f_X0_heatIn_b4 k 100000 v1 0 0 M
def f_X3_countIn_b25 (g4 : Int → Int → Int → Mem → Option (Int × Mem)) (k : Nat) (v1 : Int) (v2 : Int) (v3 : Int) (M : Mem) : Option (Int × Mem) :=
  g4 v1 v2 (v3 + 1) M
def f_X3_countIn_b4 (k : Nat) : Nat → Int → Int → Int → Mem → Option (Int × Mem)
  | 0, _, _, _, _ => none
  | n + 1, v1, v2, v3, M => if inR v3 then (if inR (M k 0) then (if (M k 0) ≤ v3 then (some (v2, M)) else (if 0 ≤ v3 ∧ v3 < 3 then (if inR (M (k + 1) v3.toNat) then (if inR v1 then (if (M (k + 1) v3.toNat) = v1 then (f_X3_countIn_b25 (f_X3_countIn_b4 k n) k v1 (v2 + 1) v3 M) else (f_X3_countIn_b25 (f_X3_countIn_b4 k n) k v1 v2 v3 M)) else none) else none) else none)) else none) else none
def f_X3_countIn (k : Nat) (v1 : Int) (M : Mem) : Option (Int × Mem) :=
  f_X3_countIn_b4 k 100000 v1 0 0 M
def f_X9_pasture_b106 (t1 : Int) (M : Mem) : Option (Int × Mem) :=
  some (t1, M)
def f_X9_pasture (v1 : Int) (v2 : Int) (M : Mem) : Option (Int × Mem) :=
  zbnd (f_X9_isPasture v1 M) fun r1 M2 => if inR r1 then (if r1 = 0 then (some ((-1), M2)) else (if inR v2 then (if v2 = 0 then (if 0 ≤ v1 ∧ v1 < 8 then (some (M2 5 v1.toNat, M2)) else none) else if v2 = 1 then (if 0 ≤ v1 ∧ v1 < 8 then (some (M2 6 v1.toNat, M2)) else none) else if v2 = 2 then (if 0 ≤ v1 ∧ v1 < 8 then (if inR (M2 9 v1.toNat) then (if (M2 9 v1.toNat) = 0 then (f_X9_pasture_b106 0 M2) else (f_X9_pasture_b106 1 M2)) else none) else none) else if v2 = 3 then (if 0 ≤ v1 ∧ v1 < 8 then (some (M2 7 v1.toNat, M2)) else none) else if v2 = 4 then (zbnd (f_X8_countIn 11 v1 M2) fun r16 M17 => some (r16, M17)) else if v2 = 5 then (zbnd (f_X7_seasonLatitude 1 M2) fun r20 M21 => zbnd (f_X2_distance 4 v1 r20 M21) fun r23 M24 => some (r23, M24)) else if v2 = 6 then (zbnd (f_X0_heatIn 14 v1 M2) fun r27 M28 => some (r27, M28)) else if v2 = 7 then (zbnd (f_X3_countIn 19 v1 M2) fun r31 M32 => some (r31, M32)) else if v2 = 8 then (if 0 ≤ v1 ∧ v1 < 8 then (some (M2 8 v1.toNat, M2)) else none) else (some ((-2), M2))) else none)) else none
def f_X9_post (M : Mem) : Option (Int × Mem) :=
  zbnd (f_X2_inns 4 M) fun r1 M2 => if inR r1 then (if 1 ≤ r1 then (zbnd (f_X1_store 1 M2) fun r5 M6 => zbnd (f_X7_letInnsPost 1 M6) fun r8 M9 => some (r1, M9)) else (some ((-5), M2))) else none
def f_X6_put_b30 (M : Mem) : Option (Int × Mem) :=
  some (0, M)
def f_X6_put (v1 : Int) (M : Mem) : Option (Int × Mem) :=
  if inR (M 206 5) then (if 137 ≤ (M 206 5) then (f_X6_put_b30 M) else (if 0 ≤ (M 206 5) ∧ (M 206 5) < 137 then (zlt (wr M 207 (M 206 5).toNat v1) fun M3 => zlt (wr M3 206 5 ((M3 206 5) + 1)) fun M4 => f_X6_put_b30 M4) else none)) else none
def f_X6_begin_b27 : Nat → Int → Int → Mem → Option (Int × Mem)
  | 0, _, _, _ => none
  | n + 1, v1, v2, M => if inR v2 then (if 8 ≤ v2 then (zlt (wr M 206 5 0) fun M7 => zbnd (f_X6_put v1 M7) fun r8 M9 => some (0, M9)) else (if 0 ≤ v2 ∧ v2 < 8 then (zlt (wr M 208 v2.toNat 0) fun M12 => zlt (wr M12 209 v2.toNat 0) fun M13 => f_X6_begin_b27 n v1 (v2 + 1) M13) else none)) else none
def f_X6_begin (v1 : Int) (M : Mem) : Option (Int × Mem) :=
  zlt (wr M 206 0 0) fun M1 => zlt (wr M1 206 1 0) fun M2 => zlt (wr M2 206 2 0) fun M3 => zlt (wr M3 206 3 0) fun M4 => zlt (wr M4 206 4 0) fun M5 => f_X6_begin_b27 100000 v1 0 M5
def f_X6_nearestNewInn_b101 (g10 : Int → Int → Int → Int → Mem → Option (Int × Mem)) (k1 : Nat) (v2 : Int) (v3 : Int) (v4 : Int) (v5 : Int) (M : Mem) : Option (Int × Mem) :=
  g10 v2 v3 v4 (v5 + 1) M
def f_X6_nearestNewInn_b54 (g10 : Int → Int → Int → Int → Mem → Option (Int × Mem)) (k1 : Nat) (v2 : Int) (v3 : Int) (v4 : Int) (v5 : Int) (t1 : Int) (M : Mem) : Option (Int × Mem) :=
  if inR v5 then (if inR v2 then (if v5 = v2 then (f_X6_nearestNewInn_b101 g10 k1 v2 v3 v4 v5 M) else (if inR t1 then (if t1 = 0 then (f_X6_nearestNewInn_b101 g10 k1 v2 v3 v4 v5 M) else (if 0 ≤ v2 ∧ v2 < 8 then (zbnd (f_X2_distance k1 v5 (M (k1 + 1) v2.toNat) M) fun r17 M18 => if inR r17 then (if inR v4 then (if v4 ≤ r17 then (f_X6_nearestNewInn_b101 g10 k1 v2 v3 v4 v5 M18) else (zbnd (f_X2_distance k1 v5 (M18 (k1 + 1) v2.toNat) M18) fun r22 M23 => f_X6_nearestNewInn_b101 g10 k1 v2 v5 r22 v5 M23)) else none) else none) else none)) else none)) else none) else none
def f_X6_nearestNewInn_b53 (g10 : Int → Int → Int → Int → Mem → Option (Int × Mem)) (k1 : Nat) (v2 : Int) (v3 : Int) (v4 : Int) (v5 : Int) (M : Mem) : Option (Int × Mem) :=
  f_X6_nearestNewInn_b54 g10 k1 v2 v3 v4 v5 0 M
def f_X6_nearestNewInn_b10 (k1 : Nat) : Nat → Int → Int → Int → Int → Mem → Option (Int × Mem)
  | 0, _, _, _, _, _ => none
  | n + 1, v2, v3, v4, v5, M => if inR v5 then (if inR (M k1 0) then (if (M k1 0) ≤ v5 then (some (v3, M)) else (if 0 ≤ v5 ∧ v5 < 8 then (if inR (M (k1 + 5) v5.toNat) then (if (M (k1 + 5) v5.toNat) = 0 then (f_X6_nearestNewInn_b53 (f_X6_nearestNewInn_b10 k1 n) k1 v2 v3 v4 v5 M) else (if inR (M 209 v5.toNat) then (if (M 209 v5.toNat) = 0 then (if inR (M 208 v5.toNat) then (if (M 208 v5.toNat) = 0 then (f_X6_nearestNewInn_b54 (f_X6_nearestNewInn_b10 k1 n) k1 v2 v3 v4 v5 1 M) else (f_X6_nearestNewInn_b53 (f_X6_nearestNewInn_b10 k1 n) k1 v2 v3 v4 v5 M)) else none) else (f_X6_nearestNewInn_b53 (f_X6_nearestNewInn_b10 k1 n) k1 v2 v3 v4 v5 M)) else none)) else none) else none)) else none) else none
def f_X6_nearestNewInn (k1 : Nat) (v2 : Int) (M : Mem) : Option (Int × Mem) :=
  f_X6_nearestNewInn_b10 k1 100000 v2 (-5) 91 0 M
def f_X6_next_b113 (k1 : Nat) (v2 : Int) (v3 : Int) (M : Mem) : Option (Int × Mem) :=
  zbnd (f_X6_nearestNewInn (k1 + 3) v3 M) fun r32 M33 => if inR r32 then (if r32 = (-5) then (zlt (wr M33 206 0 ((M33 206 0) + (M33 (k1 + 3) 0))) fun M36 => zlt (wr M36 206 4 1) fun M37 => if 0 ≤ v2 ∧ v2 < 16 then (some (M37 (k1 + 14) v2.toNat, M37)) else none) else (zlt (wr M33 206 0 ((M33 206 0) + 1)) fun M41 => zlt (wr M41 206 3 ((M41 206 3) + 1)) fun M42 => if 0 ≤ r32 ∧ r32 < 8 then (zlt (wr M42 209 r32.toNat 1) fun M44 => some (r32, M44)) else none)) else none
def f_X6_next (k1 : Nat) (v2 : Int) (v3 : Int) (M : Mem) : Option (Int × Mem) :=
  zbnd (f_X8_isAt (k1 + 10) v3 v2 M) fun r2 M3 => if inR r2 then (if r2 = 0 then (zbnd (f_X9_cell v3 v2 M3) fun r8 M9 => if 0 ≤ r8 ∧ r8 < 128 then (zlt (M9 (k1 + 9) r8.toNat) fun x12 => if 0 ≤ v3 ∧ v3 < 8 then (if inR (M9 208 v3.toNat) then (if (M9 208 v3.toNat) = 0 then (if inR x12 then (if x12 = (-5) then (f_X6_next_b113 k1 v2 v3 M9) else (if inR v3 then (if x12 = v3 then (f_X6_next_b113 k1 v2 v3 M9) else (zlt (wr M9 206 0 ((M9 206 0) + 1)) fun M17 => zlt (wr M17 206 2 ((M17 206 2) + 1)) fun M18 => zlt (wr M18 208 v3.toNat 1) fun M19 => some (x12, M19))) else none)) else none) else (f_X6_next_b113 k1 v2 v3 M9)) else none) else none) else none) else (zlt (wr M3 206 0 ((M3 206 0) + 1)) fun M23 => zlt (wr M23 206 1 ((M23 206 1) + 1)) fun M24 => zbnd (f_X9_cell v3 v2 M24) fun r26 M27 => if 0 ≤ r26 ∧ r26 < 128 then (some (M27 (k1 + 11) r26.toNat, M27)) else none)) else none
def f_X6_find_b72 (k1 : Nat) (M : Mem) : Option (Int × Mem) :=
  some (0, M)
def f_X6_find_b35 (k1 : Nat) : Nat → Int → Int → Int → Int → Mem → Option (Int × Mem)
  | 0, _, _, _, _, _ => none
  | n + 1, v3, v4, v5, v6, M => if inR v6 then (if 137 ≤ v6 then (f_X6_find_b72 k1 M) else (if inR v4 then (if inR v5 then (if v4 = v5 then (f_X6_find_b72 k1 M) else (zbnd (f_X6_next k1 v3 v4 M) fun r18 M19 => zbnd (f_X6_put r18 M19) fun r21 M22 => f_X6_find_b35 k1 n v3 r18 v5 (v6 + 1) M22)) else none) else none)) else none
def f_X6_find (k1 : Nat) (v2 : Int) (v3 : Int) (M : Mem) : Option (Int × Mem) :=
  zbnd (f_X9_cell v2 v3 M) fun r3 M4 => if 0 ≤ r3 ∧ r3 < 96 then (zlt (M4 (k1 + 27) r3.toNat) fun x7 => if 0 ≤ v3 ∧ v3 < 16 then (zlt (M4 (k1 + 14) v3.toNat) fun x11 => zbnd (f_X6_begin x7 M4) fun r12 M13 => f_X6_find_b35 k1 100000 v3 x7 x11 0 M13) else none) else none
def f_X9_reach_b15 (M : Mem) : Option (Int × Mem) :=
  some ((-1), M)
def f_X9_reach_b115 (t1 : Int) (M : Mem) : Option (Int × Mem) :=
  some (t1, M)
def f_X9_reach (v1 : Int) (v2 : Int) (v3 : Int) (M : Mem) : Option (Int × Mem) :=
  zbnd (f_X9_isReader v1 M) fun r1 M2 => if inR r1 then (if r1 = 0 then (f_X9_reach_b15 M2) else (zbnd (f_X9_isKey v2 M2) fun r5 M6 => if inR r5 then (if r5 = 0 then (f_X9_reach_b15 M6) else (if inR v2 then (zbnd (f_X6_find 1 v1 (v2.tdiv 16) M6) fun r10 M11 => if inR v3 then (if v3 = 0 then (some (M11 206 0, M11)) else if v3 = 1 then (some (M11 206 1, M11)) else if v3 = 2 then (some (M11 206 2, M11)) else if v3 = 3 then (some (M11 206 3, M11)) else if v3 = 4 then (if inR (M11 206 4) then (if (M11 206 4) = 0 then (f_X9_reach_b115 0 M11) else (f_X9_reach_b115 1 M11)) else none) else (some ((-2), M11))) else none) else none)) else none)) else none
def f_X0_warm (k : Nat) (v1 : Int) (v2 : Int) (M : Mem) : Option (Int × Mem) :=
  if 0 ≤ v1 ∧ v1 < 16 then (if inR ((M (k + 2) v1.toNat) + v2) then (zlt (wr M (k + 2) v1.toNat (imin ((M (k + 2) v1.toNat) + v2) 9999)) fun M4 => some (0, M4)) else none) else none
def f_X4_note_b42 (k : Nat) (v1 : Int) (v2 : Int) (v3 : Int) (M : Mem) : Option (Int × Mem) :=
  if 0 ≤ v1 ∧ v1 < 6 then (if inR (M (k + 5) v1.toNat) then (if inR (M 206 0) then (zlt (wr M (k + 5) v1.toNat (imax (M (k + 5) v1.toNat) (M 206 0))) fun M14 => zbnd (f_X9_cell v1 v2 M14) fun r16 M17 => if 0 ≤ r16 ∧ r16 < 96 then (zlt (wr M17 (k + 6) r16.toNat v3) fun M20 => some (0, M20)) else none) else none) else none) else none
def f_X4_note (k : Nat) (v1 : Int) (v2 : Int) (v3 : Int) (M : Mem) : Option (Int × Mem) :=
  if 0 ≤ v1 ∧ v1 < 6 then (zlt (wr M (k + 2) v1.toNat ((M (k + 2) v1.toNat) + 1)) fun M3 => zlt (wr M3 (k + 3) v1.toNat ((M3 (k + 3) v1.toNat) + (M3 206 0))) fun M5 => if inR (M5 206 4) then (if (M5 206 4) = 0 then (f_X4_note_b42 k v1 v2 v3 M5) else (zlt (wr M5 (k + 4) v1.toNat ((M5 (k + 4) v1.toNat) + 1)) fun M8 => f_X4_note_b42 k v1 v2 v3 M8)) else none) else none
def f_X7_noteRequest_b72 (g36 : Int → Mem → Option (Int × Mem)) (k : Nat) (v4 : Int) (M : Mem) : Option (Int × Mem) :=
  g36 (v4 + 1) M
def f_X7_noteRequest_b36 (k : Nat) : Nat → Int → Mem → Option (Int × Mem)
  | 0, _, _ => none
  | n + 1, v4, M => if inR v4 then (if inR (M (k + 3) 0) then (if (M (k + 3) 0) ≤ v4 then (some (0, M)) else (if 0 ≤ v4 ∧ v4 < 8 then (if inR (M 209 v4.toNat) then (if (M 209 v4.toNat) = 0 then (f_X7_noteRequest_b72 (f_X7_noteRequest_b36 k n) k v4 M) else (zlt (wr M (k + 7) v4.toNat ((M (k + 7) v4.toNat) + 1)) fun M18 => f_X7_noteRequest_b72 (f_X7_noteRequest_b36 k n) k v4 M18)) else none) else none)) else none) else none
def f_X7_noteRequest (k : Nat) (v1 : Int) (v2 : Int) (M : Mem) : Option (Int × Mem) :=
  if 0 ≤ v2 ∧ v2 < 16 then (zbnd (f_X4_note (k + 21) v1 v2 (M (k + 14) v2.toNat) M) fun r5 M6 => zbnd (f_X0_warm (k + 13) v2 (M6 (k + 1) 5) M6) fun r9 M10 => f_X7_noteRequest_b36 k 100000 0 M10) else none
def f_X9_serve_b52 (M : Mem) : Option (Int × Mem) :=
  some (M 206 0, M)
def f_X9_serve (v1 : Int) (v2 : Int) (v3 : Int) (M : Mem) : Option (Int × Mem) :=
  if inR v2 then (zlt (v2.tdiv 16) fun x2 => zbnd (f_X6_find 1 v1 x2 M) fun r3 M4 => zbnd (f_X7_noteRequest 1 v1 x2 M4) fun r6 M7 => if inR v3 then (if v3 = (-1) then (f_X9_serve_b52 M7) else (if 0 ≤ v2 ∧ v2 < 256 then (zlt (wr M7 18 v2.toNat v3) fun M11 => f_X9_serve_b52 M11) else none)) else none) else none
def f_X5_digit_b27 (t1 : Int) (M : Mem) : Option (Int × Mem) :=
  some (t1, M)
def f_X5_digit (M : Mem) : Option (Int × Mem) :=
  if inR (M 210 6) then (if inR (M 210 0) then (if (M 210 0) ≤ (M 210 6) then (f_X5_digit_b27 0 M) else (if 0 ≤ (M 210 6) ∧ (M 210 6) < 60 then (f_X5_digit_b27 ((M 214 (M 210 6).toNat) - 48) M) else none)) else none) else none
def f_X5_isDigit_b44 (t1 : Int) (M : Mem) : Option (Int × Mem) :=
  if t1 = 0 ∨ t1 = 1 then (some (t1, M)) else none
def f_X5_isDigit_b43 (M : Mem) : Option (Int × Mem) :=
  f_X5_isDigit_b44 0 M
def f_X5_isDigit (M : Mem) : Option (Int × Mem) :=
  if inR (M 210 6) then (if inR (M 210 0) then (if (M 210 0) ≤ (M 210 6) then (f_X5_isDigit_b43 M) else (if 0 ≤ (M 210 6) ∧ (M 210 6) < 60 then (if inR (M 214 (M 210 6).toNat) then (if (M 214 (M 210 6).toNat) < 48 then (f_X5_isDigit_b43 M) else (if 57 < (M 214 (M 210 6).toNat) then (f_X5_isDigit_b43 M) else (f_X5_isDigit_b44 1 M))) else none) else none)) else none) else none
def f_X5_parseNumber_b59 (v2 : Int) (M : Mem) : Option (Int × Mem) :=
  some (v2, M)
def f_X5_parseNumber_b17 : Nat → Int → Int → Int → Mem → Option (Int × Mem)
  | 0, _, _, _, _ => none
  | n + 1, v1, v2, v3, M => if inR v3 then (if inR v1 then (if v1 ≤ v3 then (f_X5_parseNumber_b59 v2 M) else (if inR v2 then (if v2 ≤ 0 then (f_X5_parseNumber_b59 v2 M) else (zbnd (f_X5_isDigit M) fun r8 M9 => if inR r8 then (if r8 = 0 then (f_X5_parseNumber_b59 v2 M9) else (zbnd (f_X5_digit M9) fun r12 M13 => zlt ((v2 * 10) + r12) fun x15 => zlt (wr M13 210 6 ((M13 210 6) + 1)) fun M16 => f_X5_parseNumber_b17 n v1 x15 (v3 + 1) M16)) else none)) else none)) else none) else none
def f_X5_parseNumber (v1 : Int) (M : Mem) : Option (Int × Mem) :=
  zbnd (f_X5_digit M) fun r1 M2 => zlt (wr M2 210 6 ((M2 210 6) + 1)) fun M4 => f_X5_parseNumber_b17 100000 v1 r1 1 M4
def f_X5_skip_b36 (M : Mem) : Option (Int × Mem) :=
  some (0, M)
def f_X5_skip (v1 : Int) (M : Mem) : Option (Int × Mem) :=
  if inR (M 210 6) then (if inR (M 210 0) then (if (M 210 0) ≤ (M 210 6) then (f_X5_skip_b36 M) else (if 0 ≤ (M 210 6) ∧ (M 210 6) < 60 then (if inR (M 214 (M 210 6).toNat) then (if inR v1 then (if (M 214 (M 210 6).toNat) = v1 then (zlt (wr M 210 6 ((M 210 6) + 1)) fun M6 => some (1, M6)) else (f_X5_skip_b36 M)) else none) else none) else none)) else none) else none
def f_X5_parseRequest_b16 (M : Mem) : Option (Int × Mem) :=
  some (0, M)
def f_X5_parseRequest_b54 (M : Mem) : Option (Int × Mem) :=
  some (0, M)
def f_X5_parseRequest_b103 (M : Mem) : Option (Int × Mem) :=
  some (1, M)
def f_X5_parseRequest (v1 : Int) (M : Mem) : Option (Int × Mem) :=
  zbnd (f_X5_isDigit M) fun r1 M2 => if inR r1 then (if r1 = 0 then (f_X5_parseRequest_b16 M2) else (zbnd (f_X5_digit M2) fun r5 M6 => if inR r5 then (if r5 < 6 then (zbnd (f_X5_digit M6) fun r9 M10 => if 0 ≤ v1 ∧ v1 < 16 then (zlt (wr M10 211 v1.toNat r9) fun M13 => zlt (wr M13 210 6 ((M13 210 6) + 1)) fun M14 => zbnd (f_X5_skip 58 M14) fun r15 M16 => if inR r15 then (if r15 = 0 then (f_X5_parseRequest_b54 M16) else (zbnd (f_X5_isDigit M16) fun r19 M20 => if inR r19 then (if r19 = 0 then (f_X5_parseRequest_b54 M20) else (zbnd (f_X5_parseNumber 3 M20) fun r23 M24 => zlt (wr M24 212 v1.toNat r23) fun M26 => zlt (wr M26 213 v1.toNat (-1)) fun M27 => zbnd (f_X5_skip 61 M27) fun r28 M29 => if inR r28 then (if r28 = 0 then (f_X5_parseRequest_b103 M29) else (zbnd (f_X5_isDigit M29) fun r32 M33 => if inR r32 then (if r32 = 0 then (some (0, M33)) else (zbnd (f_X5_parseNumber 4 M33) fun r36 M37 => zlt (wr M37 213 v1.toNat r36) fun M39 => f_X5_parseRequest_b103 M39)) else none)) else none)) else none)) else none) else none) else (f_X5_parseRequest_b16 M6)) else none)) else none
def f_X5_parse_b67 (M : Mem) : Option (Int × Mem) :=
  some (M 210 6, M)
def f_X5_parse_b10 : Nat → Mem → Option (Int × Mem)
  | 0, _ => none
  | n + 1, M => if inR (M 210 1) then (if 16 ≤ (M 210 1) then (f_X5_parse_b67 M) else (zbnd (f_X5_parseRequest (M 210 1) M) fun r4 M5 => if inR r4 then (if r4 = 0 then (f_X5_parse_b67 M5) else (zlt (wr M5 210 1 ((M5 210 1) + 1)) fun M8 => if inR (M8 210 6) then (if inR (M8 210 0) then (if (M8 210 6) = (M8 210 0) then (some ((-1), M8)) else (zbnd (f_X5_skip 44 M8) fun r11 M12 => if inR r11 then (if r11 = 0 then (some (M12 210 6, M12)) else (f_X5_parse_b10 n M12)) else none)) else none) else none)) else none)) else none
def f_X5_parse (M : Mem) : Option (Int × Mem) :=
  zlt (wr M 210 6 0) fun M1 => zlt (wr M1 210 1 0) fun M2 => f_X5_parse_b10 100000 M2
def f_X9_readRequests_b62 (M : Mem) : Option (Int × Mem) :=
  some ((-1), M)
def f_X9_readRequests_b85 : Nat → Int → Int → Mem → Option (Int × Mem)
  | 0, _, _, _ => none
  | n + 1, v2, v3, M => if inR v3 then (if inR (M 210 1) then (if (M 210 1) ≤ v3 then (some (v2, M)) else (if 0 ≤ v3 ∧ v3 < 16 then (zbnd (f_X9_serve (M 211 v3.toNat) (M 212 v3.toNat) (M 213 v3.toNat) M) fun r26 M27 => zlt (v2 + r26) fun x29 => f_X9_readRequests_b85 n x29 (v3 + 1) M27) else none)) else none) else none
def f_X9_readRequests_b20 : Nat → Int → Mem → Option (Int × Mem)
  | 0, _, _ => none
  | n + 1, v2, M => if inR v2 then (if inR (M 210 1) then (if (M 210 1) ≤ v2 then (zbnd (f_X1_store 1 M) fun r8 M9 => f_X9_readRequests_b85 100000 0 0 M9) else (if 0 ≤ v2 ∧ v2 < 16 then (zbnd (f_X9_isReader (M 211 v2.toNat) M) fun r12 M13 => if inR r12 then (if r12 = 0 then (f_X9_readRequests_b62 M13) else (zbnd (f_X9_isKey (M13 212 v2.toNat) M13) fun r16 M17 => if inR r16 then (if r16 = 0 then (f_X9_readRequests_b62 M17) else (f_X9_readRequests_b20 n (v2 + 1) M17)) else none)) else none) else none)) else none) else none
def f_X9_readRequests (M : Mem) : Option (Int × Mem) :=
  zbnd (f_X5_parse M) fun r1 M2 => if inR r1 then (if r1 = (-1) then (f_X9_readRequests_b20 100000 0 M2) else (some ((-100) - r1, M2))) else none
def f_X9_reader (v1 : Int) (v2 : Int) (M : Mem) : Option (Int × Mem) :=
  zbnd (f_X9_isReader v1 M) fun r1 M2 => if inR r1 then (if r1 = 0 then (some ((-1), M2)) else (if inR v2 then (if v2 = 0 then (if 0 ≤ v1 ∧ v1 < 6 then (some (M2 23 v1.toNat, M2)) else none) else if v2 = 1 then (if 0 ≤ v1 ∧ v1 < 6 then (some (M2 24 v1.toNat, M2)) else none) else if v2 = 2 then (if 0 ≤ v1 ∧ v1 < 6 then (some (M2 25 v1.toNat, M2)) else none) else if v2 = 3 then (if 0 ≤ v1 ∧ v1 < 6 then (some (M2 26 v1.toNat, M2)) else none) else if v2 = 4 then (if 0 ≤ v1 ∧ v1 < 6 then (some (M2 27 v1.toNat, M2)) else none) else (some ((-2), M2))) else none)) else none
def f_X9_remembered_b15 (M : Mem) : Option (Int × Mem) :=
  some ((-1), M)
def f_X9_remembered (v1 : Int) (v2 : Int) (M : Mem) : Option (Int × Mem) :=
  zbnd (f_X9_isReader v1 M) fun r1 M2 => if inR r1 then (if r1 = 0 then (f_X9_remembered_b15 M2) else (zbnd (f_X9_isShard v2 M2) fun r5 M6 => if inR r5 then (if r5 = 0 then (f_X9_remembered_b15 M6) else (zbnd (f_X9_cell v1 v2 M6) fun r9 M10 => if 0 ≤ r9 ∧ r9 < 96 then (some (M10 28 r9.toNat, M10)) else none)) else none)) else none
def f_X9_request_b15 (M : Mem) : Option (Int × Mem) :=
  some ((-1), M)
def f_X9_request (v1 : Int) (v2 : Int) (M : Mem) : Option (Int × Mem) :=
  zbnd (f_X9_isReader v1 M) fun r1 M2 => if inR r1 then (if r1 = 0 then (f_X9_request_b15 M2) else (zbnd (f_X9_isKey v2 M2) fun r5 M6 => if inR r5 then (if r5 = 0 then (f_X9_request_b15 M6) else (zbnd (f_X1_store 1 M6) fun r9 M10 => zbnd (f_X9_serve v1 v2 (-1) M10) fun r12 M13 => some (r12, M13))) else none)) else none
def f_X9_restore (M : Mem) : Option (Int × Mem) :=
  if inR (M 0 6) then (if (M 0 6) = 0 then (some ((-5), M)) else (zbnd (f_X1_store 1 M) fun r2 M3 => zbnd (f_X7_copyFrom 1 59 M3) fun r5 M6 => some (M6 1 0, M6))) else none
def f_X9_set (v1 : Int) (v2 : Int) (M : Mem) : Option (Int × Mem) :=
  zbnd (f_X9_isWithin v1 0 5 M) fun r1 M2 => if inR r1 then (if r1 = 0 then (some ((-2), M2)) else (if 0 ≤ v1 ∧ v1 < 6 then (zbnd (f_X9_isWithin v2 (zR0 v1.toNat) (zR1 v1.toNat) M2) fun r8 M9 => if inR r8 then (if r8 = 0 then (some ((-2), M9)) else (zlt (M9 2 v1.toNat) fun x12 => if inR x12 then (if inR v2 then (if x12 = v2 then (some ((-5), M9)) else (zbnd (f_X1_store 1 M9) fun r15 M16 => zlt (wr M16 2 v1.toNat v2) fun M18 => some (x12, M18))) else none) else none)) else none) else none)) else none
def f_X2_forgetPosted_b2 (k : Nat) : Nat → Int → Int → Mem → Option (Int × Mem)
  | 0, _, _, _ => none
  | n + 1, v1, v2, M => if inR v2 then (if 16 ≤ v2 then (some (0, M)) else (zbnd (f_X9_cell v1 v2 M) fun r3 M4 => if 0 ≤ r3 ∧ r3 < 128 then (zlt (wr M4 (k + 6) r3.toNat (-5)) fun M7 => f_X2_forgetPosted_b2 k n v1 (v2 + 1) M7) else none)) else none
def f_X2_forgetPosted (k : Nat) (v1 : Int) (M : Mem) : Option (Int × Mem) :=
  f_X2_forgetPosted_b2 k 100000 v1 0 M
def f_X9_setInn (v1 : Int) (v2 : Int) (M : Mem) : Option (Int × Mem) :=
  zbnd (f_X9_isPasture v1 M) fun r1 M2 => if inR r1 then (if r1 = 0 then (some ((-1), M2)) else (if 0 ≤ v1 ∧ v1 < 8 then (if inR (M2 9 v1.toNat) then (if inR v2 then (if (M2 9 v1.toNat) = v2 then (some ((-5), M2)) else (zbnd (f_X1_store 1 M2) fun r8 M9 => if v2 = 0 ∨ v2 = 1 then (zlt (wr M9 9 v1.toNat v2) fun M12 => zbnd (f_X2_forgetPosted 4 v1 M12) fun r13 M14 => zbnd (f_X2_inns 4 M14) fun r16 M17 => some (r16, M17)) else none)) else none) else none) else none)) else none
def f_X9_setRoom (v1 : Int) (v2 : Int) (M : Mem) : Option (Int × Mem) :=
  zbnd (f_X9_isPasture v1 M) fun r1 M2 => if inR r1 then (if r1 = 0 then (some ((-1), M2)) else (zbnd (f_X9_isWithin v2 1 16 M2) fun r5 M6 => if inR r5 then (if r5 = 0 then (some ((-2), M6)) else (if 0 ≤ v1 ∧ v1 < 8 then (if inR (M6 7 v1.toNat) then (if inR v2 then (if (M6 7 v1.toNat) ≤ v2 then (zlt (M6 6 v1.toNat) fun x12 => if inR x12 then (if x12 = v2 then (some ((-5), M6)) else (zbnd (f_X1_store 1 M6) fun r14 M15 => zlt (wr M15 6 v1.toNat v2) fun M17 => some (x12, M17))) else none) else (some ((-4), M6))) else none) else none) else none)) else none)) else none
def f_X9_setSeason_b19 (M : Mem) : Option (Int × Mem) :=
  some ((-2), M)
def f_X9_setSeason (v1 : Int) (v2 : Int) (M : Mem) : Option (Int × Mem) :=
  zbnd (f_X9_isWithin v1 0 3 M) fun r1 M2 => if inR r1 then (if r1 = 0 then (f_X9_setSeason_b19 M2) else (zbnd (f_X9_isWithin v2 0 90 M2) fun r5 M6 => if inR r5 then (if r5 = 0 then (f_X9_setSeason_b19 M6) else (if 0 ≤ v1 ∧ v1 < 4 then (zlt (M6 3 v1.toNat) fun x10 => if inR x10 then (if inR v2 then (if x10 = v2 then (some ((-5), M6)) else (zbnd (f_X1_store 1 M6) fun r13 M14 => zlt (wr M14 3 v1.toNat v2) fun M16 => some (x10, M16))) else none) else none) else none)) else none)) else none
def f_X0_placeByHeat_b22 (g4 : Int → Int → Int → Mem → Option (Int × Mem)) (k : Nat) (v1 : Int) (v2 : Int) (v3 : Int) (M : Mem) : Option (Int × Mem) :=
  g4 v1 v2 (v3 + 1) M
def f_X0_placeByHeat_b4 (k : Nat) : Nat → Int → Int → Int → Mem → Option (Int × Mem)
  | 0, _, _, _, _ => none
  | n + 1, v1, v2, v3, M => if inR v3 then (if 16 ≤ v3 then (some (v2, M)) else (zbnd (f_X0_isAskedBefore k v3 v1 M) fun r2 M3 => if inR r2 then (if r2 = 0 then (f_X0_placeByHeat_b22 (f_X0_placeByHeat_b4 k n) k v1 v2 v3 M3) else (f_X0_placeByHeat_b22 (f_X0_placeByHeat_b4 k n) k v1 (v2 + 1) v3 M3)) else none)) else none
def f_X0_placeByHeat (k : Nat) (v1 : Int) (M : Mem) : Option (Int × Mem) :=
  f_X0_placeByHeat_b4 k 100000 v1 0 0 M
def f_X0_sumOfValues_b4 (k : Nat) : Nat → Int → Int → Int → Mem → Option (Int × Mem)
  | 0, _, _, _, _ => none
  | n + 1, v1, v2, v3, M => if inR v3 then (if 16 ≤ v3 then (some (v2, M)) else (if 0 ≤ ((v1 * 16) + v3) ∧ ((v1 * 16) + v3) < 256 then (zlt (v2 + (M (k + 4) ((v1 * 16) + v3).toNat)) fun x4 => f_X0_sumOfValues_b4 k n v1 x4 (v3 + 1) M) else none)) else none
def f_X0_sumOfValues (k : Nat) (v1 : Int) (M : Mem) : Option (Int × Mem) :=
  f_X0_sumOfValues_b4 k 100000 v1 0 0 M
def f_X8_countOf_b22 (g4 : Int → Int → Int → Mem → Option (Int × Mem)) (k : Nat) (v1 : Int) (v2 : Int) (v3 : Int) (M : Mem) : Option (Int × Mem) :=
  g4 v1 v2 (v3 + 1) M
def f_X8_countOf_b4 (k : Nat) : Nat → Int → Int → Int → Mem → Option (Int × Mem)
  | 0, _, _, _, _ => none
  | n + 1, v1, v2, v3, M => if inR v3 then (if 8 ≤ v3 then (some (v2, M)) else (zbnd (f_X8_isAt k v3 v1 M) fun r2 M3 => if inR r2 then (if r2 = 0 then (f_X8_countOf_b22 (f_X8_countOf_b4 k n) k v1 v2 v3 M3) else (f_X8_countOf_b22 (f_X8_countOf_b4 k n) k v1 (v2 + 1) v3 M3)) else none)) else none
def f_X8_countOf (k : Nat) (v1 : Int) (M : Mem) : Option (Int × Mem) :=
  f_X8_countOf_b4 k 100000 v1 0 0 M
def f_X9_shard (v1 : Int) (v2 : Int) (M : Mem) : Option (Int × Mem) :=
  zbnd (f_X9_isShard v1 M) fun r1 M2 => if inR r1 then (if r1 = 0 then (some ((-1), M2)) else (if inR v2 then (if v2 = 0 then (if 0 ≤ v1 ∧ v1 < 16 then (some (M2 15 v1.toNat, M2)) else none) else if v2 = 1 then (if 0 ≤ v1 ∧ v1 < 16 then (some (M2 16 v1.toNat, M2)) else none) else if v2 = 2 then (if 0 ≤ v1 ∧ v1 < 16 then (some (M2 17 v1.toNat, M2)) else none) else if v2 = 3 then (zbnd (f_X8_countOf 11 v1 M2) fun r12 M13 => some (r12, M13)) else if v2 = 4 then (zbnd (f_X0_placeByHeat 14 v1 M2) fun r16 M17 => some (r16, M17)) else if v2 = 5 then (if 0 ≤ v1 ∧ v1 < 16 then (zbnd (f_X7_seasonLatitude 1 M2) fun r21 M22 => zbnd (f_X2_bestOther 4 (M2 15 v1.toNat) r21 M22) fun r24 M25 => some (r24, M25)) else none) else if v2 = 6 then (zbnd (f_X0_sumOfValues 14 v1 M2) fun r28 M29 => some (r28, M29)) else (some ((-2), M2))) else none)) else none
def f_X9_track_b15 (M : Mem) : Option (Int × Mem) :=
  some ((-1), M)
def f_X9_track_b97 (t1 : Int) (M : Mem) : Option (Int × Mem) :=
  some (t1, M)
def f_X9_track (v1 : Int) (v2 : Int) (v3 : Int) (M : Mem) : Option (Int × Mem) :=
  zbnd (f_X9_isPasture v1 M) fun r1 M2 => if inR r1 then (if r1 = 0 then (f_X9_track_b15 M2) else (zbnd (f_X9_isShard v2 M2) fun r5 M6 => if inR r5 then (if r5 = 0 then (f_X9_track_b15 M6) else (if inR v3 then (if v3 = 0 then (zbnd (f_X9_cell v1 v2 M6) fun r10 M11 => if 0 ≤ r10 ∧ r10 < 128 then (some (M11 12 r10.toNat, M11)) else none) else if v3 = 1 then (zbnd (f_X8_isAt 11 v1 v2 M6) fun r15 M16 => if inR r15 then (if r15 = 0 then (f_X9_track_b97 (-5) M16) else (zbnd (f_X9_cell v1 v2 M16) fun r19 M20 => if 0 ≤ r19 ∧ r19 < 128 then (f_X9_track_b97 (M20 13 r19.toNat) M20) else none)) else none) else if v3 = 2 then (zbnd (f_X9_cell v1 v2 M6) fun r25 M26 => if 0 ≤ r25 ∧ r25 < 128 then (some (M26 10 r25.toNat, M26)) else none) else (some ((-2), M6))) else none)) else none)) else none
def f_X5_append_b29 (M : Mem) : Option (Int × Mem) :=
  some (0, M)
def f_X5_append (v1 : Int) (M : Mem) : Option (Int × Mem) :=
  if inR (M 210 0) then (if 60 ≤ (M 210 0) then (f_X5_append_b29 M) else (if 0 ≤ (M 210 0) ∧ (M 210 0) < 60 then (if 0 ≤ v1 ∧ v1 < 65536 then (zlt (wr M 214 (M 210 0).toNat v1) fun M4 => zlt (wr M4 210 0 ((M4 210 0) + 1)) fun M5 => f_X5_append_b29 M5) else none) else none)) else none
def f_X9_type (v1 : Int) (M : Mem) : Option (Int × Mem) :=
  if inR (M 210 0) then (if (M 210 0) < 60 then (zbnd (f_X5_append v1 M) fun r2 M3 => some (M3 210 0, M3)) else (some ((-3), M))) else none
def f_X1_takeBack_b37 (k1 : Nat) (M : Mem) : Option (Int × Mem) :=
  some (0, M)
def f_X1_takeBack (k1 : Nat) (M : Mem) : Option (Int × Mem) :=
  if inR (M 88 0) then (if (M 88 0) ≤ 0 then (f_X1_takeBack_b37 k1 M) else (zlt (wr M 88 0 ((M 88 0) - 1)) fun M2 => if inR ((M2 88 1) + (M2 88 0)) then (if 0 ≤ (((M2 88 1) + (M2 88 0)).tmod 4) ∧ (((M2 88 1) + (M2 88 0)).tmod 4) < 4 then (zbnd (f_X7_copyFrom k1 (90 + 29 * (((M2 88 1) + (M2 88 0)).tmod 4).toNat) M2) fun r5 M6 => f_X1_takeBack_b37 k1 M6) else none) else none)) else none
def f_X9_undo (M : Mem) : Option (Int × Mem) :=
  if inR (M 88 0) then (if 1 ≤ (M 88 0) then (zbnd (f_X1_takeBack 1 M) fun r2 M3 => some (M3 88 0, M3)) else (some ((-5), M))) else none
def f_X9_value_b23 (t1 : Int) (M : Mem) : Option (Int × Mem) :=
  some (t1, M)
def f_X9_value (v1 : Int) (M : Mem) : Option (Int × Mem) :=
  zbnd (f_X9_isKey v1 M) fun r1 M2 => if inR r1 then (if r1 = 0 then (f_X9_value_b23 (-1) M2) else (if 0 ≤ v1 ∧ v1 < 256 then (f_X9_value_b23 (M2 18 v1.toNat) M2) else none)) else none
def f_X9_way_b15 (M : Mem) : Option (Int × Mem) :=
  some ((-1), M)
def f_X9_way_b65 (t1 : Int) (M : Mem) : Option (Int × Mem) :=
  some (t1, M)
def f_X9_way (v1 : Int) (v2 : Int) (v3 : Int) (M : Mem) : Option (Int × Mem) :=
  zbnd (f_X9_isReader v1 M) fun r1 M2 => if inR r1 then (if r1 = 0 then (f_X9_way_b15 M2) else (zbnd (f_X9_isKey v2 M2) fun r5 M6 => if inR r5 then (if r5 = 0 then (f_X9_way_b15 M6) else (if inR v3 then (if 0 ≤ v3 then (if inR v2 then (zbnd (f_X6_find 1 v1 (v2.tdiv 16) M6) fun r11 M12 => if inR (M12 206 5) then (if (M12 206 5) ≤ v3 then (f_X9_way_b65 (-5) M12) else (if 0 ≤ v3 ∧ v3 < 137 then (f_X9_way_b65 (M12 207 v3.toNat) M12) else none)) else none) else none) else (some ((-2), M6))) else none)) else none)) else none
def f_X9_write_b15 (M : Mem) : Option (Int × Mem) :=
  some ((-1), M)
def f_X9_write (v1 : Int) (v2 : Int) (v3 : Int) (M : Mem) : Option (Int × Mem) :=
  zbnd (f_X9_isReader v1 M) fun r1 M2 => if inR r1 then (if r1 = 0 then (f_X9_write_b15 M2) else (zbnd (f_X9_isKey v2 M2) fun r5 M6 => if inR r5 then (if r5 = 0 then (f_X9_write_b15 M6) else (zbnd (f_X9_isWithin v3 0 9999 M6) fun r9 M10 => if inR r9 then (if r9 = 0 then (some ((-2), M10)) else (zbnd (f_X1_store 1 M10) fun r13 M14 => zbnd (f_X9_serve v1 v2 v3 M14) fun r16 M17 => some (r16, M17))) else none)) else none)) else none
def f_X10_in_b15 (t1 : Int) (M : Mem) : Option (Int × Mem) :=
  if t1 = 0 ∨ t1 = 1 then (some (t1, M)) else none
def f_X10_in_b14 (M : Mem) : Option (Int × Mem) :=
  f_X10_in_b15 0 M
def f_X10_in (v0 : Int) (v1 : Int) (v2 : Int) (M : Mem) : Option (Int × Mem) :=
  if inR v0 then (if inR v1 then (if v0 < v1 then (f_X10_in_b14 M) else (if inR v2 then (if v2 < v0 then (f_X10_in_b14 M) else (f_X10_in_b15 1 M)) else none)) else none) else none
def f_X10_copy_b2 : Nat → Int → Int → Int → Mem → Option (Int × Mem)
  | 0, _, _, _, _ => none
  | n + 1, v1, v2, v3, M => if inR v3 then (if 871 ≤ v3 then (some (0, M)) else (if 0 ≤ (v1 + v3) ∧ (v1 + v3) < 6097 then (if 0 ≤ (v2 + v3) ∧ (v2 + v3) < 6097 then (zlt (wr M 216 (v2 + v3).toNat (M 216 (v1 + v3).toNat)) fun M4 => f_X10_copy_b2 n v1 v2 (v3 + 1) M4) else none) else none)) else none
def f_X10_copy (v1 : Int) (v2 : Int) (M : Mem) : Option (Int × Mem) :=
  f_X10_copy_b2 100000 v1 v2 0 M
def f_X10_record_b49 (M : Mem) : Option (Int × Mem) :=
  zbnd (f_X10_copy 0 (871 + (871 * (M 215 1))) M) fun r3 M4 => zlt (wr M4 215 1 ((M4 215 1) + 1)) fun M6 => some (0, M6)
def f_X10_record_b10 : Nat → Int → Mem → Option (Int × Mem)
  | 0, _, _ => none
  | n + 1, v1, M => if inR v1 then (if 4 ≤ v1 then (zlt (wr M 215 1 ((M 215 1) - 1)) fun M8 => f_X10_record_b49 M8) else (zbnd (f_X10_copy (871 + (871 * v1)) (871 * v1) M) fun r9 M10 => f_X10_record_b10 n (v1 + 1) M10)) else none
def f_X10_record (M : Mem) : Option (Int × Mem) :=
  if inR (M 215 1) then (if (M 215 1) = 4 then (f_X10_record_b10 100000 1 M) else (f_X10_record_b49 M)) else none
def f_X10_addPasture_b20 (M : Mem) : Option (Int × Mem) :=
  some ((-2), M)
def f_X10_addPasture_b100 (v4 : Int) (t3 : Int) (t2 : Int) (M : Mem) : Option (Int × Mem) :=
  if 0 ≤ t2 ∧ t2 < 6097 then (zlt (wr M 216 t2.toNat t3) fun M24 => zlt (wr M24 216 863 ((M24 216 863) + 1)) fun M25 => some (v4, M25)) else none
def f_X10_addPasture (v1 : Int) (v2 : Int) (v3 : Int) (M : Mem) : Option (Int × Mem) :=
  zbnd (f_X10_in v1 0 90 M) fun r1 M2 => if inR r1 then (if r1 = 0 then (f_X10_addPasture_b20 M2) else (zbnd (f_X10_in v2 1 16 M2) fun r5 M6 => if inR r5 then (if r5 = 0 then (f_X10_addPasture_b20 M6) else (if inR (M6 216 863) then (if (M6 216 863) = 8 then (some ((-3), M6)) else (zbnd (f_X10_record M6) fun r10 M11 => zlt (M11 216 863) fun x13 => if 0 ≤ (0 + (4 * x13)) ∧ (0 + (4 * x13)) < 6097 then (zlt (wr M11 216 (0 + (4 * x13)).toNat v1) fun M15 => if 0 ≤ ((0 + (4 * x13)) + 1) ∧ ((0 + (4 * x13)) + 1) < 6097 then (zlt (wr M15 216 ((0 + (4 * x13)) + 1).toNat v2) fun M17 => if inR v3 then (if v3 = 0 then (f_X10_addPasture_b100 x13 0 ((0 + (4 * x13)) + 2) M17) else (f_X10_addPasture_b100 x13 1 ((0 + (4 * x13)) + 2) M17)) else none) else none) else none)) else none)) else none)) else none
def f_X10_isPasture (v1 : Int) (M : Mem) : Option (Int × Mem) :=
  zbnd (f_X10_in v1 0 ((M 216 863) - 1) M) fun r1 M2 => if r1 = 0 ∨ r1 = 1 then (some (r1, M2)) else none
def f_X10_addReader_b54 : Nat → Int → Int → Int → Mem → Option (Int × Mem)
  | 0, _, _, _, _ => none
  | n + 1, v1, v2, v3, M => if inR v3 then (if 16 ≤ v3 then (zlt (wr M 216 865 ((M 216 865) + 1)) fun M15 => some (v2, M15)) else (if 0 ≤ ((756 + (16 * v2)) + v3) ∧ ((756 + (16 * v2)) + v3) < 6097 then (zlt (wr M 216 ((756 + (16 * v2)) + v3).toNat v1) fun M17 => f_X10_addReader_b54 n v1 v2 (v3 + 1) M17) else none)) else none
def f_X10_addReader (v1 : Int) (M : Mem) : Option (Int × Mem) :=
  zbnd (f_X10_isPasture v1 M) fun r1 M2 => if inR r1 then (if r1 = 0 then (some ((-1), M2)) else (if inR (M2 216 865) then (if (M2 216 865) = 6 then (some ((-3), M2)) else (zbnd (f_X10_record M2) fun r6 M7 => zlt (M7 216 865) fun x9 => if 0 ≤ (726 + (5 * x9)) ∧ (726 + (5 * x9)) < 6097 then (zlt (wr M7 216 (726 + (5 * x9)).toNat v1) fun M11 => f_X10_addReader_b54 100000 v1 x9 0 M11) else none)) else none)) else none
def f_X10_addWolf (v1 : Int) (v2 : Int) (M : Mem) : Option (Int × Mem) :=
  zbnd (f_X10_isPasture v1 M) fun r1 M2 => if inR r1 then (if r1 = 0 then (some ((-1), M2)) else (zbnd (f_X10_in v2 1 7 M2) fun r5 M6 => if inR r5 then (if r5 = 0 then (some ((-2), M6)) else (if inR (M6 216 864) then (if (M6 216 864) = 3 then (some ((-3), M6)) else (zbnd (f_X10_record M6) fun r10 M11 => if 0 ≤ (720 + (2 * (M11 216 864))) ∧ (720 + (2 * (M11 216 864))) < 6097 then (zlt (wr M11 216 (720 + (2 * (M11 216 864))).toNat v1) fun M14 => if 0 ≤ ((720 + (2 * (M14 216 864))) + 1) ∧ ((720 + (2 * (M14 216 864))) + 1) < 6097 then (zlt (wr M14 216 ((720 + (2 * (M14 216 864))) + 1).toNat v2) fun M16 => zlt (wr M16 216 864 ((M16 216 864) + 1)) fun M17 => some ((M17 216 864) - 1, M17)) else none) else none)) else none)) else none)) else none
def f_X10_isKey (v0 : Int) (M : Mem) : Option (Int × Mem) :=
  zbnd (f_X10_in v0 0 255 M) fun r1 M2 => if r1 = 0 ∨ r1 = 1 then (some (r1, M2)) else none
def f_X10_isReader (v1 : Int) (M : Mem) : Option (Int × Mem) :=
  zbnd (f_X10_in v1 0 ((M 216 865) - 1) M) fun r1 M2 => if r1 = 0 ∨ r1 = 1 then (some (r1, M2)) else none
def f_X10_nextBehind_b27 (v2 : Int) (M : Mem) : Option (Int × Mem) :=
  some (v2 + 1, M)
def f_X10_nextBehind_b2 : Nat → Int → Mem → Option (Int × Mem)
  | 0, _, _ => none
  | n + 1, v2, M => if inR v2 then (if inR (M 215 4) then (if (M 215 4) ≤ v2 then (f_X10_nextBehind_b27 v2 M) else (if 0 ≤ v2 ∧ v2 < 60 then (if inR (M 217 v2.toNat) then (if (M 217 v2.toNat) = 44 then (f_X10_nextBehind_b27 v2 M) else (f_X10_nextBehind_b2 n (v2 + 1) M)) else none) else none)) else none) else none
def f_X10_nextBehind (v1 : Int) (M : Mem) : Option (Int × Mem) :=
  f_X10_nextBehind_b2 100000 v1 M
def f_X10_numberAt_b49 (v2 : Int) (M : Mem) : Option (Int × Mem) :=
  some (v2, M)
def f_X10_numberAt_b4 : Nat → Int → Int → Mem → Option (Int × Mem)
  | 0, _, _, _ => none
  | n + 1, v2, v3, M => if inR v3 then (if inR (M 215 4) then (if (M 215 4) ≤ v3 then (f_X10_numberAt_b49 v2 M) else (if 0 ≤ v3 ∧ v3 < 60 then (zbnd (f_X10_in (M 217 v3.toNat) 48 57 M) fun r4 M5 => if inR r4 then (if r4 = 0 then (f_X10_numberAt_b49 v2 M5) else (zlt (((10 * v2) + (M5 217 v3.toNat)) - 48) fun x8 => f_X10_numberAt_b4 n x8 (v3 + 1) M5)) else none) else none)) else none) else none
def f_X10_numberAt (v1 : Int) (M : Mem) : Option (Int × Mem) :=
  f_X10_numberAt_b4 100000 0 v1 M
def f_X10_areKnown_b50 (g4 : Int → Int → Mem → Option (Int × Mem)) (v2 : Int) (t1 : Int) (M : Mem) : Option (Int × Mem) :=
  zbnd (f_X10_nextBehind v2 M) fun r21 M22 => g4 t1 r21 M22
def f_X10_areKnown_b49 (g4 : Int → Int → Mem → Option (Int × Mem)) (v2 : Int) (M : Mem) : Option (Int × Mem) :=
  f_X10_areKnown_b50 g4 v2 0 M
def f_X10_areKnown_b4 : Nat → Int → Int → Mem → Option (Int × Mem)
  | 0, _, _, _ => none
  | n + 1, v1, v2, M => if inR v2 then (if inR (M 215 4) then (if (M 215 4) ≤ v2 then (if v1 = 0 ∨ v1 = 1 then (some (v1, M)) else none) else (if inR v1 then (if v1 = 0 then (f_X10_areKnown_b49 (f_X10_areKnown_b4 n) v2 M) else (if 0 ≤ v2 ∧ v2 < 60 then (zbnd (f_X10_isReader ((M 217 v2.toNat) - 48) M) fun r6 M7 => if inR r6 then (if r6 = 0 then (f_X10_areKnown_b49 (f_X10_areKnown_b4 n) v2 M7) else (zbnd (f_X10_numberAt (v2 + 2) M7) fun r10 M11 => zbnd (f_X10_isKey r10 M11) fun r13 M14 => if inR r13 then (if r13 = 0 then (f_X10_areKnown_b49 (f_X10_areKnown_b4 n) v2 M14) else (f_X10_areKnown_b50 (f_X10_areKnown_b4 n) v2 1 M14)) else none)) else none) else none)) else none)) else none) else none
def f_X10_areKnown (M : Mem) : Option (Int × Mem) :=
  f_X10_areKnown_b4 100000 1 0 M
def f_X10_at (v0 : Int) (v1 : Int) (v2 : Int) (M : Mem) : Option (Int × Mem) :=
  some ((v0 + (16 * v1)) + v2, M)
def f_X10_begin (v1 : Int) (M : Mem) : Option (Int × Mem) :=
  zlt (wr M 215 12 v1) fun M1 => zlt (wr M1 215 13 0) fun M2 => zlt (wr M2 215 14 0) fun M3 => some (0, M3)
def f_X10_bits_b4 : Nat → Int → Int → Int → Mem → Option (Int × Mem)
  | 0, _, _, _, _ => none
  | n + 1, v0, v1, v2, M => if inR v2 then (if 8 ≤ v2 then (some (v1, M)) else (zlt (v1 + (iand (ishr v0 v2) 1)) fun x2 => f_X10_bits_b4 n v0 x2 (v2 + 1) M)) else none
def f_X10_bits (v0 : Int) (M : Mem) : Option (Int × Mem) :=
  f_X10_bits_b4 100000 v0 0 0 M
def f_X10_clearText (M : Mem) : Option (Int × Mem) :=
  zlt (M 215 4) fun x1 => zlt (wr M 215 4 0) fun M2 => some (x1, M2)
def f_X10_comeTo (v1 : Int) (M : Mem) : Option (Int × Mem) :=
  if 0 ≤ (M 215 6) ∧ (M 215 6) < 160 then (zlt (wr M 218 (M 215 6).toNat v1) fun M2 => zlt (wr M2 215 6 ((M2 215 6) + 1)) fun M3 => some (0, M3)) else none
def f_X10_hasInn_b21 (t1 : Int) (M : Mem) : Option (Int × Mem) :=
  if t1 = 0 ∨ t1 = 1 then (some (t1, M)) else none
def f_X10_hasInn (v1 : Int) (M : Mem) : Option (Int × Mem) :=
  if 0 ≤ ((0 + (4 * v1)) + 2) ∧ ((0 + (4 * v1)) + 2) < 6097 then (if inR (M 216 ((0 + (4 * v1)) + 2).toNat) then (if (M 216 ((0 + (4 * v1)) + 2).toNat) = 1 then (f_X10_hasInn_b21 1 M) else (f_X10_hasInn_b21 0 M)) else none) else none
def f_X10_inns_b30 (g4 : Int → Int → Mem → Option (Int × Mem)) (v2 : Int) (t2 : Int) (t1 : Int) (M : Mem) : Option (Int × Mem) :=
  zlt (t1 + t2) fun x9 => g4 x9 (v2 + 1) M
def f_X10_inns_b4 : Nat → Int → Int → Mem → Option (Int × Mem)
  | 0, _, _, _ => none
  | n + 1, v1, v2, M => if inR v2 then (if inR (M 216 863) then (if (M 216 863) ≤ v2 then (some (v1, M)) else (zbnd (f_X10_hasInn v2 M) fun r3 M4 => if inR r3 then (if r3 = 0 then (f_X10_inns_b30 (f_X10_inns_b4 n) v2 0 v1 M4) else (f_X10_inns_b30 (f_X10_inns_b4 n) v2 1 v1 M4)) else none)) else none) else none
def f_X10_inns (M : Mem) : Option (Int × Mem) :=
  f_X10_inns_b4 100000 0 0 M
def f_X10_season (M : Mem) : Option (Int × Mem) :=
  if inR (M 216 862) then (if inR (M 216 856) then (if (M 216 856) ≠ 0 then (if inR ((M 216 862).tdiv (M 216 856)) then (some (((M 216 862).tdiv (M 216 856)).tmod 4, M)) else none) else none) else none) else none
def f_X10_hasTrack_b21 (t1 : Int) (M : Mem) : Option (Int × Mem) :=
  if t1 = 0 ∨ t1 = 1 then (some (t1, M)) else none
def f_X10_hasTrack (v1 : Int) (v2 : Int) (M : Mem) : Option (Int × Mem) :=
  zbnd (f_X10_at 160 v1 v2 M) fun r1 M2 => if 0 ≤ r1 ∧ r1 < 6097 then (if inR (M2 216 r1.toNat) then (if (M2 216 r1.toNat) ≤ 0 then (f_X10_hasTrack_b21 0 M2) else (f_X10_hasTrack_b21 1 M2)) else none) else none
def f_X10_tracksIn_b25 (g4 : Int → Int → Int → Mem → Option (Int × Mem)) (v1 : Int) (v3 : Int) (t2 : Int) (t1 : Int) (M : Mem) : Option (Int × Mem) :=
  zlt (t1 + t2) fun x8 => g4 v1 x8 (v3 + 1) M
def f_X10_tracksIn_b4 : Nat → Int → Int → Int → Mem → Option (Int × Mem)
  | 0, _, _, _, _ => none
  | n + 1, v1, v2, v3, M => if inR v3 then (if 16 ≤ v3 then (some (v2, M)) else (zbnd (f_X10_hasTrack v1 v3 M) fun r2 M3 => if inR r2 then (if r2 = 0 then (f_X10_tracksIn_b25 (f_X10_tracksIn_b4 n) v1 v3 0 v2 M3) else (f_X10_tracksIn_b25 (f_X10_tracksIn_b4 n) v1 v3 1 v2 M3)) else none)) else none
def f_X10_tracksIn (v1 : Int) (M : Mem) : Option (Int × Mem) :=
  f_X10_tracksIn_b4 100000 v1 0 0 M
def f_X10_tracks_b4 : Nat → Int → Int → Mem → Option (Int × Mem)
  | 0, _, _, _ => none
  | n + 1, v1, v2, M => if inR v2 then (if inR (M 216 863) then (if (M 216 863) ≤ v2 then (some (v1, M)) else (zbnd (f_X10_tracksIn v2 M) fun r3 M4 => zlt (v1 + r3) fun x6 => f_X10_tracks_b4 n x6 (v2 + 1) M4)) else none) else none
def f_X10_tracks (M : Mem) : Option (Int × Mem) :=
  f_X10_tracks_b4 100000 0 0 M
def f_X10_count (v1 : Int) (M : Mem) : Option (Int × Mem) :=
  if inR v1 then (if v1 = 0 then (some (M 216 862, M)) else if v1 = 1 then (zbnd (f_X10_season M) fun r3 M4 => some (r3, M4)) else if v1 = 2 then (zbnd (f_X10_season M) fun r7 M8 => if 0 ≤ (852 + r7) ∧ (852 + r7) < 6097 then (some (M8 216 (852 + r7).toNat, M8)) else none) else if v1 = 3 then (some (M 216 863, M)) else if v1 = 4 then (zbnd (f_X10_inns M) fun r13 M14 => some (r13, M14)) else if v1 = 5 then (some (M 216 864, M)) else if v1 = 6 then (some (M 216 865, M)) else if v1 = 7 then (zbnd (f_X10_tracks M) fun r19 M20 => some (r19, M20)) else if v1 = 8 then (some (M 216 866, M)) else if v1 = 9 then (some (M 216 867, M)) else if v1 = 10 then (some (M 216 868, M)) else if v1 = 11 then (some (M 216 869, M)) else if v1 = 12 then (some (M 216 870, M)) else if v1 = 13 then (some (M 215 1, M)) else if v1 = 14 then (some (M 215 4, M)) else (some ((-2), M))) else none
def f_X10_cutIn_b50 (v2 : Int) (M : Mem) : Option (Int × Mem) :=
  zlt (wr M 216 867 ((M 216 867) + v2)) fun M18 => some (v2, M18)
def f_X10_cutIn_b20 : Nat → Int → Int → Int → Mem → Option (Int × Mem)
  | 0, _, _, _, _ => none
  | n + 1, v1, v2, v3, M => if inR v3 then (if 16 ≤ v3 then (f_X10_cutIn_b50 v2 M) else (if inR v2 then (if v2 ≤ 0 then (f_X10_cutIn_b50 v2 M) else (zbnd (f_X10_at 160 v1 v3 M) fun r11 M12 => if 0 ≤ r11 ∧ r11 < 6097 then (zlt (wr M12 216 r11.toNat 0) fun M15 => f_X10_cutIn_b20 n v1 v2 (v3 + 1) M15) else none)) else none)) else none
def f_X10_cutIn_b17 (v1 : Int) (t1 : Int) (M : Mem) : Option (Int × Mem) :=
  f_X10_cutIn_b20 100000 v1 t1 0 M
def f_X10_cutIn (v1 : Int) (M : Mem) : Option (Int × Mem) :=
  zbnd (f_X10_hasInn v1 M) fun r1 M2 => if inR r1 then (if r1 = 0 then (zbnd (f_X10_tracksIn v1 M2) fun r5 M6 => f_X10_cutIn_b17 v1 r5 M6) else (f_X10_cutIn_b17 v1 0 M2)) else none
def f_X10_cut_b49 (M : Mem) : Option (Int × Mem) :=
  some ((-5), M)
def f_X10_cut (v1 : Int) (M : Mem) : Option (Int × Mem) :=
  zbnd (f_X10_in v1 0 ((M 216 864) - 1) M) fun r1 M2 => if inR r1 then (if r1 = 0 then (some ((-1), M2)) else (if 0 ≤ (720 + (2 * v1)) ∧ (720 + (2 * v1)) < 6097 then (zlt (M2 216 (720 + (2 * v1)).toNat) fun x6 => zbnd (f_X10_hasInn x6 M2) fun r7 M8 => if inR r7 then (if r7 = 0 then (zbnd (f_X10_tracksIn x6 M8) fun r11 M12 => if inR r11 then (if r11 = 0 then (f_X10_cut_b49 M12) else (zbnd (f_X10_record M12) fun r15 M16 => zbnd (f_X10_cutIn x6 M16) fun r18 M19 => some (r18, M19))) else none) else (f_X10_cut_b49 M8)) else none) else none)) else none
def f_X10_latitudeOf (v1 : Int) (M : Mem) : Option (Int × Mem) :=
  if 0 ≤ (0 + (4 * v1)) ∧ (0 + (4 * v1)) < 6097 then (some (M 216 (0 + (4 * v1)).toNat, M)) else none
def f_X10_distanceOf_b30 (t1 : Int) (M : Mem) : Option (Int × Mem) :=
  some (t1, M)
def f_X10_distanceOf (v1 : Int) (M : Mem) : Option (Int × Mem) :=
  zbnd (f_X10_latitudeOf v1 M) fun r1 M2 => zbnd (f_X10_season M2) fun r4 M5 => if 0 ≤ (852 + r4) ∧ (852 + r4) < 6097 then (zlt (r1 - (M5 216 (852 + r4).toNat)) fun x8 => if inR x8 then (if 0 ≤ x8 then (f_X10_distanceOf_b30 x8 M5) else (f_X10_distanceOf_b30 (-x8) M5)) else none) else none
def f_X10_go (v1 : Int) (v2 : Int) (M : Mem) : Option (Int × Mem) :=
  if 0 ≤ (416 + v1) ∧ (416 + v1) < 6097 then (zlt (M 216 (416 + v1).toNat) fun x2 => zbnd (f_X10_at 160 x2 v1 M) fun r3 M4 => if 0 ≤ r3 ∧ r3 < 6097 then (zlt (wr M4 216 r3.toNat (v2 + 1)) fun M7 => zbnd (f_X10_at 288 x2 v1 M7) fun r8 M9 => if 0 ≤ r8 ∧ r8 < 6097 then (zlt (wr M9 216 r8.toNat (M9 216 862)) fun M12 => zbnd (f_X10_at 160 v2 v1 M12) fun r13 M14 => if 0 ≤ r13 ∧ r13 < 6097 then (zlt (wr M14 216 r13.toNat 0) fun M17 => zlt (wr M17 216 (416 + v1).toNat v2) fun M18 => if 0 ≤ (448 + v1) ∧ (448 + v1) < 6097 then (zlt (wr M18 216 (448 + v1).toNat ((M18 216 (448 + v1).toNat) + 1)) fun M20 => zlt (wr M20 216 866 ((M20 216 866) + 1)) fun M21 => some (0, M21)) else none) else none) else none) else none) else none
def f_X10_roomOf (v1 : Int) (M : Mem) : Option (Int × Mem) :=
  if 0 ≤ ((0 + (4 * v1)) + 1) ∧ ((0 + (4 * v1)) + 1) < 6097 then (some (M 216 ((0 + (4 * v1)) + 1).toNat, M)) else none
def f_X10_shardsIn_b30 (g4 : Int → Int → Int → Mem → Option (Int × Mem)) (v1 : Int) (v3 : Int) (t2 : Int) (t1 : Int) (M : Mem) : Option (Int × Mem) :=
  zlt (t1 + t2) fun x7 => g4 v1 x7 (v3 + 1) M
def f_X10_shardsIn_b4 : Nat → Int → Int → Int → Mem → Option (Int × Mem)
  | 0, _, _, _, _ => none
  | n + 1, v1, v2, v3, M => if inR v3 then (if 16 ≤ v3 then (some (v2, M)) else (if 0 ≤ (416 + v3) ∧ (416 + v3) < 6097 then (if inR (M 216 (416 + v3).toNat) then (if inR v1 then (if (M 216 (416 + v3).toNat) = v1 then (f_X10_shardsIn_b30 (f_X10_shardsIn_b4 n) v1 v3 1 v2 M) else (f_X10_shardsIn_b30 (f_X10_shardsIn_b4 n) v1 v3 0 v2 M)) else none) else none) else none)) else none
def f_X10_shardsIn (v1 : Int) (M : Mem) : Option (Int × Mem) :=
  f_X10_shardsIn_b4 100000 v1 0 0 M
def f_X10_lookedAt_b80 (g5 : Int → Int → Int → Mem → Option (Int × Mem)) (v1 : Int) (v3 : Int) (t1 : Int) (M : Mem) : Option (Int × Mem) :=
  g5 v1 t1 (v3 + 1) M
def f_X10_lookedAt_b75 (g5 : Int → Int → Int → Mem → Option (Int × Mem)) (v1 : Int) (v3 : Int) (M : Mem) : Option (Int × Mem) :=
  f_X10_lookedAt_b80 g5 v1 v3 v3 M
def f_X10_lookedAt_b79 (g5 : Int → Int → Int → Mem → Option (Int × Mem)) (v1 : Int) (v2 : Int) (v3 : Int) (M : Mem) : Option (Int × Mem) :=
  f_X10_lookedAt_b80 g5 v1 v3 v2 M
def f_X10_lookedAt_b49 (g5 : Int → Int → Int → Mem → Option (Int × Mem)) (v1 : Int) (v2 : Int) (v3 : Int) (t1 : Int) (M : Mem) : Option (Int × Mem) :=
  if inR t1 then (if t1 = 0 then (f_X10_lookedAt_b79 g5 v1 v2 v3 M) else (if inR v2 then (if v2 = (-5) then (f_X10_lookedAt_b75 g5 v1 v3 M) else (zbnd (f_X10_distanceOf v3 M) fun r18 M19 => zbnd (f_X10_distanceOf v2 M19) fun r21 M22 => if inR r18 then (if inR r21 then (if r21 ≤ r18 then (f_X10_lookedAt_b79 g5 v1 v2 v3 M22) else (f_X10_lookedAt_b75 g5 v1 v3 M22)) else none) else none)) else none)) else none
def f_X10_lookedAt_b48 (g5 : Int → Int → Int → Mem → Option (Int × Mem)) (v1 : Int) (v2 : Int) (v3 : Int) (M : Mem) : Option (Int × Mem) :=
  f_X10_lookedAt_b49 g5 v1 v2 v3 0 M
def f_X10_lookedAt_b5 : Nat → Int → Int → Int → Mem → Option (Int × Mem)
  | 0, _, _, _, _ => none
  | n + 1, v1, v2, v3, M => if inR v3 then (if inR (M 216 863) then (if (M 216 863) ≤ v3 then (some (v2, M)) else (if 0 ≤ (416 + v1) ∧ (416 + v1) < 6097 then (if inR (M 216 (416 + v1).toNat) then (if v3 = (M 216 (416 + v1).toNat) then (f_X10_lookedAt_b48 (f_X10_lookedAt_b5 n) v1 v2 v3 M) else (zbnd (f_X10_shardsIn v3 M) fun r5 M6 => zbnd (f_X10_roomOf v3 M6) fun r8 M9 => if inR r5 then (if inR r8 then (if r8 ≤ r5 then (f_X10_lookedAt_b48 (f_X10_lookedAt_b5 n) v1 v2 v3 M9) else (f_X10_lookedAt_b49 (f_X10_lookedAt_b5 n) v1 v2 v3 1 M9)) else none) else none)) else none) else none)) else none) else none
def f_X10_lookedAt (v1 : Int) (M : Mem) : Option (Int × Mem) :=
  f_X10_lookedAt_b5 100000 v1 (-5) 0 M
def f_X10_orderOf_b67 (g4 : Int → Int → Int → Mem → Option (Int × Mem)) (v1 : Int) (v3 : Int) (t2 : Int) (t1 : Int) (M : Mem) : Option (Int × Mem) :=
  zlt (t1 + t2) fun x11 => g4 v1 x11 (v3 + 1) M
def f_X10_orderOf_b62 (g4 : Int → Int → Int → Mem → Option (Int × Mem)) (v1 : Int) (v3 : Int) (t1 : Int) (M : Mem) : Option (Int × Mem) :=
  f_X10_orderOf_b67 g4 v1 v3 1 t1 M
def f_X10_orderOf_b66 (g4 : Int → Int → Int → Mem → Option (Int × Mem)) (v1 : Int) (v3 : Int) (t1 : Int) (M : Mem) : Option (Int × Mem) :=
  f_X10_orderOf_b67 g4 v1 v3 0 t1 M
def f_X10_orderOf_b4 : Nat → Int → Int → Int → Mem → Option (Int × Mem)
  | 0, _, _, _, _ => none
  | n + 1, v1, v2, v3, M => if inR v3 then (if 16 ≤ v3 then (some (v2, M)) else (if 0 ≤ (432 + v3) ∧ (432 + v3) < 6097 then (if 0 ≤ (432 + v1) ∧ (432 + v1) < 6097 then (if inR (M 216 (432 + v3).toNat) then (if inR (M 216 (432 + v1).toNat) then (if (M 216 (432 + v1).toNat) < (M 216 (432 + v3).toNat) then (f_X10_orderOf_b62 (f_X10_orderOf_b4 n) v1 v3 v2 M) else (if inR v1 then (if v1 ≤ v3 then (f_X10_orderOf_b66 (f_X10_orderOf_b4 n) v1 v3 v2 M) else (if (M 216 (432 + v3).toNat) = (M 216 (432 + v1).toNat) then (f_X10_orderOf_b62 (f_X10_orderOf_b4 n) v1 v3 v2 M) else (f_X10_orderOf_b66 (f_X10_orderOf_b4 n) v1 v3 v2 M))) else none)) else none) else none) else none) else none)) else none
def f_X10_orderOf (v1 : Int) (M : Mem) : Option (Int × Mem) :=
  f_X10_orderOf_b4 100000 v1 0 0 M
def f_X10_drive_b94 (g11 : Int → Int → Mem → Option (Int × Mem)) (v1 : Int) (v2 : Int) (M : Mem) : Option (Int × Mem) :=
  g11 v1 (v2 + 1) M
def f_X10_drive_b23 (g11 : Int → Int → Mem → Option (Int × Mem)) : Nat → Int → Int → Int → Mem → Option (Int × Mem)
  | 0, _, _, _, _ => none
  | n + 1, v1, v2, v3, M => zbnd (f_X10_orderOf v3 M) fun r6 M7 => if inR r6 then (if inR v2 then (if r6 = v2 then (zbnd (f_X10_lookedAt v3 M7) fun r11 M12 => if inR r11 then (if r11 = (-5) then (f_X10_drive_b94 g11 v1 v2 M12) else (if 0 ≤ (416 + v3) ∧ (416 + v3) < 6097 then (zbnd (f_X10_distanceOf (M12 216 (416 + v3).toNat) M12) fun r16 M17 => zbnd (f_X10_distanceOf r11 M17) fun r19 M20 => if inR (r16 - r19) then (if inR (M20 216 858) then (if (r16 - r19) < (M20 216 858) then (f_X10_drive_b94 g11 v1 v2 M20) else (zbnd (f_X10_go v3 r11 M20) fun r24 M25 => f_X10_drive_b94 g11 (v1 + (-1)) v2 M25)) else none) else none) else none)) else none) else (f_X10_drive_b23 g11 n v1 v2 (v3 + 1) M7)) else none) else none
def f_X10_drive_b100 (M : Mem) : Option (Int × Mem) :=
  some (0, M)
def f_X10_drive_b11 : Nat → Int → Int → Mem → Option (Int × Mem)
  | 0, _, _, _ => none
  | n + 1, v1, v2, M => if inR v2 then (if 16 ≤ v2 then (f_X10_drive_b100 M) else (if inR v1 then (if v1 ≤ 0 then (f_X10_drive_b100 M) else (f_X10_drive_b23 (f_X10_drive_b11 n) 100000 v1 v2 0 M)) else none)) else none
def f_X10_drive (M : Mem) : Option (Int × Mem) :=
  zlt (M 216 859) fun x1 => f_X10_drive_b11 100000 x1 0 M
def f_X10_driveWolf (M : Mem) : Option (Int × Mem) :=
  if inR (M 216 864) then (if (M 216 864) = 0 then (some ((-5), M)) else (zbnd (f_X10_record M) fun r2 M3 => zlt (wr M3 216 864 ((M3 216 864) - 1)) fun M5 => some (M5 216 864, M5))) else none
def f_X10_read_b44 (t1 : Int) (M : Mem) : Option (Int × Mem) :=
  zbnd (f_X10_begin ((M 215 12) + 1) M) fun r32 M33 => if t1 = 0 ∨ t1 = 1 then (some (t1, M33)) else none
def f_X10_read_b15 (v1 : Int) (M : Mem) : Option (Int × Mem) :=
  if inR (M 215 12) then (if (M 215 12) = 0 then (zbnd (f_X10_in v1 48 53 M) fun r24 M25 => f_X10_read_b44 r24 M25) else (if inR v1 then (if v1 = 58 then (f_X10_read_b44 1 M) else (f_X10_read_b44 0 M)) else none)) else none
def f_X10_read_b113 (v2 : Int) (t2 : Int) (M : Mem) : Option (Int × Mem) :=
  if t2 = 0 ∨ t2 = 1 then (zlt (wr M 215 14 t2) fun M39 => zlt (wr M39 215 13 ((M39 215 13) + 1)) fun M40 => if v2 = 0 ∨ v2 = 1 then (some (v2, M40)) else none) else none
def f_X10_read_b112 (v2 : Int) (M : Mem) : Option (Int × Mem) :=
  f_X10_read_b113 v2 0 M
def f_X10_read_b93 (v1 : Int) (t1 : Int) (M : Mem) : Option (Int × Mem) :=
  if inR (M 215 13) then (if (M 215 13) = 0 then (if inR v1 then (if v1 = 48 then (f_X10_read_b113 t1 1 M) else (f_X10_read_b112 t1 M)) else none) else (f_X10_read_b112 t1 M)) else none
def f_X10_read_b92 (v1 : Int) (M : Mem) : Option (Int × Mem) :=
  f_X10_read_b93 v1 0 M
def f_X10_read_b173 (v2 : Int) (t2 : Int) (M : Mem) : Option (Int × Mem) :=
  zbnd (f_X10_begin t2 M) fun r42 M43 => if v2 = 0 ∨ v2 = 1 then (some (v2, M43)) else none
def f_X10_read_b160 (v1 : Int) (t1 : Int) (M : Mem) : Option (Int × Mem) :=
  if inR v1 then (if v1 = 61 then (f_X10_read_b173 t1 3 M) else (f_X10_read_b173 t1 0 M)) else none
def f_X10_read_b155 (v1 : Int) (M : Mem) : Option (Int × Mem) :=
  f_X10_read_b160 v1 1 M
def f_X10_read_b159 (v1 : Int) (M : Mem) : Option (Int × Mem) :=
  f_X10_read_b160 v1 0 M
def f_X10_read (v1 : Int) (M : Mem) : Option (Int × Mem) :=
  if inR (M 215 12) then (if (M 215 12) = 0 then (f_X10_read_b15 v1 M) else (if (M 215 12) = 1 then (f_X10_read_b15 v1 M) else (zbnd (f_X10_in v1 48 57 M) fun r2 M3 => if inR r2 then (if r2 = 0 then (if inR (M3 215 13) then (if (M3 215 13) ≤ 0 then (f_X10_read_b159 v1 M3) else (if inR v1 then (if v1 = 44 then (f_X10_read_b155 v1 M3) else (if v1 = 61 then (if inR (M3 215 12) then (if (M3 215 12) = 2 then (f_X10_read_b155 v1 M3) else (f_X10_read_b159 v1 M3)) else none) else (f_X10_read_b159 v1 M3))) else none)) else none) else (if inR (M3 215 14) then (if (M3 215 14) = 0 then (if inR (M3 215 13) then (if inR ((M3 215 12) + 1) then (if ((M3 215 12) + 1) ≤ (M3 215 13) then (f_X10_read_b92 v1 M3) else (f_X10_read_b93 v1 1 M3)) else none) else none) else (f_X10_read_b92 v1 M3)) else none)) else none))) else none
def f_X10_faultOf_b59 (t1 : Int) (M : Mem) : Option (Int × Mem) :=
  some (t1, M)
def f_X10_faultOf_b55 (M : Mem) : Option (Int × Mem) :=
  f_X10_faultOf_b59 (M 215 4) M
def f_X10_faultOf_b7 : Nat → Int → Mem → Option (Int × Mem)
  | 0, _, _ => none
  | n + 1, v1, M => if inR v1 then (if inR (M 215 4) then (if (M 215 4) ≤ v1 then (if inR (M 215 12) then (if (M 215 12) ≤ 1 then (f_X10_faultOf_b55 M) else (if inR (M 215 13) then (if (M 215 13) ≤ 0 then (f_X10_faultOf_b55 M) else (f_X10_faultOf_b59 (-1) M)) else none)) else none) else (if 0 ≤ v1 ∧ v1 < 60 then (zbnd (f_X10_read (M 217 v1.toNat) M) fun r11 M12 => if inR r11 then (if r11 = 0 then (some (v1, M12)) else (f_X10_faultOf_b7 n (v1 + 1) M12)) else none) else none)) else none) else none
def f_X10_faultOf (M : Mem) : Option (Int × Mem) :=
  zbnd (f_X10_begin 0 M) fun r1 M2 => f_X10_faultOf_b7 100000 0 M2
def f_X10_has_b14 (t1 : Int) (M : Mem) : Option (Int × Mem) :=
  if t1 = 0 ∨ t1 = 1 then (some (t1, M)) else none
def f_X10_has (v0 : Int) (v1 : Int) (M : Mem) : Option (Int × Mem) :=
  if inR (iand (ishr v0 v1) 1) then (if (iand (ishr v0 v1) 1) = 1 then (f_X10_has_b14 1 M) else (f_X10_has_b14 0 M)) else none
def f_X10_nextInn_b114 (g8 : Int → Int → Int → Int → Mem → Option (Int × Mem)) (v1 : Int) (v2 : Int) (v3 : Int) (v4 : Int) (M : Mem) : Option (Int × Mem) :=
  g8 v1 v2 v3 (v4 + 1) M
def f_X10_nextInn_b108 (g8 : Int → Int → Int → Int → Mem → Option (Int × Mem)) (v1 : Int) (v4 : Int) (v5 : Int) (M : Mem) : Option (Int × Mem) :=
  f_X10_nextInn_b114 g8 v1 v4 v5 v4 M
def f_X10_nextInn_b62 (g8 : Int → Int → Int → Int → Mem → Option (Int × Mem)) (v1 : Int) (v2 : Int) (v3 : Int) (v4 : Int) (t1 : Int) (M : Mem) : Option (Int × Mem) :=
  if inR v4 then (if inR v1 then (if v4 = v1 then (f_X10_nextInn_b114 g8 v1 v2 v3 v4 M) else (zbnd (f_X10_hasInn v4 M) fun r27 M28 => if inR r27 then (if r27 = 0 then (f_X10_nextInn_b114 g8 v1 v2 v3 v4 M28) else (zbnd (f_X10_has (ior (M28 215 9) (M28 215 10)) v4 M28) fun r31 M32 => if inR r31 then (if r31 = 0 then (if inR v2 then (if v2 = (-5) then (f_X10_nextInn_b108 g8 v1 v4 t1 M32) else (if inR t1 then (if inR v3 then (if v3 ≤ t1 then (f_X10_nextInn_b114 g8 v1 v2 v3 v4 M32) else (f_X10_nextInn_b108 g8 v1 v4 t1 M32)) else none) else none)) else none) else (f_X10_nextInn_b114 g8 v1 v2 v3 v4 M32)) else none)) else none)) else none) else none
def f_X10_nextInn_b8 : Nat → Int → Int → Int → Int → Mem → Option (Int × Mem)
  | 0, _, _, _, _, _ => none
  | n + 1, v1, v2, v3, v4, M => if inR v4 then (if inR (M 216 863) then (if (M 216 863) ≤ v4 then (some (v2, M)) else (zbnd (f_X10_latitudeOf v4 M) fun r3 M4 => zbnd (f_X10_latitudeOf v1 M4) fun r6 M7 => if inR r3 then (if inR r6 then (if r6 ≤ r3 then (zbnd (f_X10_latitudeOf v4 M7) fun r11 M12 => zbnd (f_X10_latitudeOf v1 M12) fun r14 M15 => f_X10_nextInn_b62 (f_X10_nextInn_b8 n) v1 v2 v3 v4 (r11 - r14) M15) else (zbnd (f_X10_latitudeOf v1 M7) fun r17 M18 => zbnd (f_X10_latitudeOf v4 M18) fun r20 M21 => f_X10_nextInn_b62 (f_X10_nextInn_b8 n) v1 v2 v3 v4 (r17 - r20) M21)) else none) else none)) else none) else none
def f_X10_nextInn (v1 : Int) (M : Mem) : Option (Int × Mem) :=
  f_X10_nextInn_b8 100000 v1 (-5) 0 0 M
def f_X10_stepFrom_b119 (v4 : Int) (t3 : Int) (t2 : Int) (M : Mem) : Option (Int × Mem) :=
  zlt (wr M 215 10 (ior t2 t3)) fun M36 => some (v4, M36)
def f_X10_stepFrom_b92 (v1 : Int) (M : Mem) : Option (Int × Mem) :=
  zbnd (f_X10_nextInn v1 M) fun r31 M32 => if inR r31 then (if r31 = (-5) then (f_X10_stepFrom_b119 r31 0 (M32 215 10) M32) else (f_X10_stepFrom_b119 r31 (ishl 1 r31) (M32 215 10) M32)) else none
def f_X10_stepFrom (v1 : Int) (v2 : Int) (M : Mem) : Option (Int × Mem) :=
  zbnd (f_X10_hasTrack v1 v2 M) fun r1 M2 => if inR r1 then (if r1 = 0 then (zbnd (f_X10_at 32 v1 v2 M2) fun r5 M6 => if 0 ≤ r5 ∧ r5 < 6097 then (zlt ((M6 216 r5.toNat) - 1) fun x9 => zbnd (f_X10_hasInn v1 M6) fun r10 M11 => if inR r10 then (if r10 = 0 then (f_X10_stepFrom_b92 v1 M11) else (zbnd (f_X10_has (M11 215 9) v1 M11) fun r14 M15 => if inR r14 then (if r14 = 0 then (if inR x9 then (if x9 < 0 then (f_X10_stepFrom_b92 v1 M15) else (if inR v1 then (if x9 = v1 then (f_X10_stepFrom_b92 v1 M15) else (zlt (wr M15 215 9 (ior (M15 215 9) (ishl 1 v1))) fun M20 => some (x9, M20))) else none)) else none) else (f_X10_stepFrom_b92 v1 M15)) else none)) else none) else none) else (zlt (wr M2 215 8 ((M2 215 8) + 1)) fun M25 => zbnd (f_X10_at 160 v1 v2 M25) fun r26 M27 => if 0 ≤ r26 ∧ r26 < 6097 then (some ((M27 216 r26.toNat) - 1, M27)) else none)) else none
def f_X10_findWay_b139 (g51 : Int → Int → Mem → Option (Int × Mem)) (v2 : Int) (t1 : Int) (M : Mem) : Option (Int × Mem) :=
  zbnd (f_X10_comeTo t1 M) fun r29 M30 => g51 v2 t1 M30
def f_X10_findWay_b113 (g51 : Int → Int → Mem → Option (Int × Mem)) (v2 : Int) (v4 : Int) (t3 : Int) (t2 : Int) (M : Mem) : Option (Int × Mem) :=
  zlt (wr M 215 7 (t2 + t3)) fun M25 => if inR (M25 215 11) then (if (M25 215 11) = 0 then (f_X10_findWay_b139 g51 v2 v4 M25) else (if 0 ≤ (416 + v2) ∧ (416 + v2) < 6097 then (f_X10_findWay_b139 g51 v2 (M25 216 (416 + v2).toNat) M25) else none)) else none
def f_X10_findWay_b86 (g51 : Int → Int → Mem → Option (Int × Mem)) (v2 : Int) (v4 : Int) (t2 : Int) (M : Mem) : Option (Int × Mem) :=
  if t2 = 0 ∨ t2 = 1 then (zlt (wr M 215 11 t2) fun M22 => if inR (M22 215 11) then (if (M22 215 11) = 0 then (f_X10_findWay_b113 g51 v2 v4 1 (M22 215 7) M22) else (f_X10_findWay_b113 g51 v2 v4 (M22 216 863) (M22 215 7) M22)) else none) else none
def f_X10_findWay_b51 : Nat → Int → Int → Mem → Option (Int × Mem)
  | 0, _, _, _ => none
  | n + 1, v2, v3, M => if 0 ≤ (416 + v2) ∧ (416 + v2) < 6097 then (if inR v3 then (if inR (M 216 (416 + v2).toNat) then (if v3 = (M 216 (416 + v2).toNat) then (some (0, M)) else (zbnd (f_X10_stepFrom v3 v2 M) fun r15 M16 => if inR r15 then (if r15 = (-5) then (f_X10_findWay_b86 (f_X10_findWay_b51 n) v2 r15 1 M16) else (f_X10_findWay_b86 (f_X10_findWay_b51 n) v2 r15 0 M16)) else none)) else none) else none) else none
def f_X10_findWay (v1 : Int) (v2 : Int) (M : Mem) : Option (Int × Mem) :=
  zlt (wr M 215 6 0) fun M1 => zlt (wr M1 215 7 0) fun M2 => zlt (wr M2 215 8 0) fun M3 => zlt (wr M3 215 9 0) fun M4 => zlt (wr M4 215 10 0) fun M5 => zlt (wr M5 215 11 0) fun M6 => if 0 ≤ ((756 + (16 * v1)) + v2) ∧ ((756 + (16 * v1)) + v2) < 6097 then (zlt (M6 216 ((756 + (16 * v1)) + v2).toNat) fun x8 => zbnd (f_X10_comeTo x8 M6) fun r9 M10 => f_X10_findWay_b51 100000 v2 x8 M10) else none
def f_X10_grow_b98 (g2 : Int → Mem → Option (Int × Mem)) (g16 : Int → Int → Mem → Option (Int × Mem)) (v1 : Int) (v2 : Int) (M : Mem) : Option (Int × Mem) :=
  g16 v1 (v2 + 1) M
def f_X10_grow_b104 (g2 : Int → Mem → Option (Int × Mem)) (v1 : Int) (M : Mem) : Option (Int × Mem) :=
  g2 (v1 + 1) M
def f_X10_grow_b16 (g2 : Int → Mem → Option (Int × Mem)) : Nat → Int → Int → Mem → Option (Int × Mem)
  | 0, _, _, _ => none
  | n + 1, v1, v2, M => if inR v2 then (if 16 ≤ v2 then (f_X10_grow_b104 g2 v1 M) else (zbnd (f_X10_hasInn v1 M) fun r5 M6 => if inR r5 then (if r5 = 0 then (zbnd (f_X10_hasTrack v1 v2 M6) fun r9 M10 => if inR r9 then (if r9 = 0 then (f_X10_grow_b98 g2 (f_X10_grow_b16 g2 n) v1 v2 M10) else (zbnd (f_X10_at 288 v1 v2 M10) fun r13 M14 => if 0 ≤ r13 ∧ r13 < 6097 then (if inR ((M10 216 862) - (M14 216 r13.toNat)) then (if inR (M14 216 857) then (if ((M10 216 862) - (M14 216 r13.toNat)) < (M14 216 857) then (f_X10_grow_b98 g2 (f_X10_grow_b16 g2 n) v1 v2 M14) else (zbnd (f_X10_at 160 v1 v2 M14) fun r19 M20 => if 0 ≤ r19 ∧ r19 < 6097 then (zlt (wr M20 216 r19.toNat 0) fun M23 => zlt (wr M23 216 868 ((M23 216 868) + 1)) fun M24 => f_X10_grow_b98 g2 (f_X10_grow_b16 g2 n) v1 v2 M24) else none)) else none) else none) else none)) else none) else (f_X10_grow_b104 g2 v1 M6)) else none)) else none
def f_X10_grow_b2 : Nat → Int → Mem → Option (Int × Mem)
  | 0, _, _ => none
  | n + 1, v1, M => if inR v1 then (if inR (M 216 863) then (if (M 216 863) ≤ v1 then (some (0, M)) else (f_X10_grow_b16 (f_X10_grow_b2 n) 100000 v1 0 M)) else none) else none
def f_X10_grow (M : Mem) : Option (Int × Mem) :=
  f_X10_grow_b2 100000 0 M
def f_X10_heatIn_b39 (g4 : Int → Int → Int → Mem → Option (Int × Mem)) (v1 : Int) (v3 : Int) (t2 : Int) (t1 : Int) (M : Mem) : Option (Int × Mem) :=
  zlt (t1 + t2) fun x8 => g4 v1 x8 (v3 + 1) M
def f_X10_heatIn_b4 : Nat → Int → Int → Int → Mem → Option (Int × Mem)
  | 0, _, _, _, _ => none
  | n + 1, v1, v2, v3, M => if inR v3 then (if 16 ≤ v3 then (some (v2, M)) else (if 0 ≤ (416 + v3) ∧ (416 + v3) < 6097 then (if inR (M 216 (416 + v3).toNat) then (if inR v1 then (if (M 216 (416 + v3).toNat) = v1 then (if 0 ≤ (432 + v3) ∧ (432 + v3) < 6097 then (f_X10_heatIn_b39 (f_X10_heatIn_b4 n) v1 v3 (M 216 (432 + v3).toNat) v2 M) else none) else (f_X10_heatIn_b39 (f_X10_heatIn_b4 n) v1 v3 0 v2 M)) else none) else none) else none)) else none
def f_X10_heatIn (v1 : Int) (M : Mem) : Option (Int × Mem) :=
  f_X10_heatIn_b4 100000 v1 0 0 M
def f_X10_isSetting_b36 (v1 : Int) (M : Mem) : Option (Int × Mem) :=
  zbnd (f_X10_in v1 1 30 M) fun r25 M26 => if r25 = 0 ∨ r25 = 1 then (some (r25, M26)) else none
def f_X10_isSetting_b88 (t1 : Int) (M : Mem) : Option (Int × Mem) :=
  if t1 = 0 ∨ t1 = 1 then (some (t1, M)) else none
def f_X10_isSetting_b87 (M : Mem) : Option (Int × Mem) :=
  f_X10_isSetting_b88 0 M
def f_X10_isSetting (v0 : Int) (v1 : Int) (M : Mem) : Option (Int × Mem) :=
  if inR v0 then (if v0 = 0 then (f_X10_isSetting_b36 v1 M) else if v0 = 1 then (zbnd (f_X10_in v1 1 60 M) fun r3 M4 => if r3 = 0 ∨ r3 = 1 then (some (r3, M4)) else none) else if v0 = 2 then (zbnd (f_X10_in v1 1 90 M) fun r8 M9 => if r8 = 0 ∨ r8 = 1 then (some (r8, M9)) else none) else if v0 = 3 then (zbnd (f_X10_in v1 0 16 M) fun r13 M14 => if r13 = 0 ∨ r13 = 1 then (some (r13, M14)) else none) else if v0 = 4 then (f_X10_isSetting_b36 v1 M) else (if v0 = 5 then (zbnd (f_X10_in v1 0 100 M) fun r19 M20 => if inR r19 then (if r19 = 0 then (f_X10_isSetting_b87 M20) else (f_X10_isSetting_b88 1 M20)) else none) else (f_X10_isSetting_b87 M))) else none
def f_X10_isShard (v0 : Int) (M : Mem) : Option (Int × Mem) :=
  zbnd (f_X10_in v0 0 15 M) fun r1 M2 => if r1 = 0 ∨ r1 = 1 then (some (r1, M2)) else none
def f_X10_keep (M : Mem) : Option (Int × Mem) :=
  zbnd (f_X10_copy 0 4355 M) fun r1 M2 => zlt (wr M2 215 2 1) fun M4 => some (M4 216 862, M4)
def f_X10_move_b15 (M : Mem) : Option (Int × Mem) :=
  some ((-1), M)
def f_X10_move (v1 : Int) (v2 : Int) (M : Mem) : Option (Int × Mem) :=
  zbnd (f_X10_isShard v1 M) fun r1 M2 => if inR r1 then (if r1 = 0 then (f_X10_move_b15 M2) else (zbnd (f_X10_isPasture v2 M2) fun r5 M6 => if inR r5 then (if r5 = 0 then (f_X10_move_b15 M6) else (if 0 ≤ (416 + v1) ∧ (416 + v1) < 6097 then (zlt (M6 216 (416 + v1).toNat) fun x10 => if inR x10 then (if inR v2 then (if x10 = v2 then (some ((-5), M6)) else (zbnd (f_X10_shardsIn v2 M6) fun r13 M14 => zbnd (f_X10_roomOf v2 M14) fun r16 M17 => if inR r13 then (if inR r16 then (if r13 < r16 then (zbnd (f_X10_record M17) fun r21 M22 => zbnd (f_X10_go v1 v2 M22) fun r24 M25 => some (x10, M25)) else (some ((-3), M17))) else none) else none)) else none) else none) else none)) else none)) else none
def f_X10_postAll_b60 (g2 : Int → Mem → Option (Int × Mem)) (v1 : Int) (M : Mem) : Option (Int × Mem) :=
  g2 (v1 + 1) M
def f_X10_postAll_b16 (g2 : Int → Mem → Option (Int × Mem)) : Nat → Int → Int → Mem → Option (Int × Mem)
  | 0, _, _, _ => none
  | n + 1, v1, v2, M => if inR v2 then (if 16 ≤ v2 then (f_X10_postAll_b60 g2 v1 M) else (zbnd (f_X10_hasInn v1 M) fun r5 M6 => if inR r5 then (if r5 = 0 then (f_X10_postAll_b60 g2 v1 M6) else (zbnd (f_X10_at 32 v1 v2 M6) fun r9 M10 => if 0 ≤ (416 + v2) ∧ (416 + v2) < 6097 then (if 0 ≤ r9 ∧ r9 < 6097 then (zlt (wr M10 216 r9.toNat ((M10 216 (416 + v2).toNat) + 1)) fun M14 => f_X10_postAll_b16 g2 n v1 (v2 + 1) M14) else none) else none)) else none)) else none
def f_X10_postAll_b2 : Nat → Int → Mem → Option (Int × Mem)
  | 0, _, _ => none
  | n + 1, v1, M => if inR v1 then (if inR (M 216 863) then (if (M 216 863) ≤ v1 then (some (0, M)) else (f_X10_postAll_b16 (f_X10_postAll_b2 n) 100000 v1 0 M)) else none) else none
def f_X10_postAll (M : Mem) : Option (Int × Mem) :=
  f_X10_postAll_b2 100000 0 M
def f_X10_roam_b2 : Nat → Int → Mem → Option (Int × Mem)
  | 0, _, _ => none
  | n + 1, v1, M => if inR v1 then (if inR (M 216 864) then (if (M 216 864) ≤ v1 then (some (0, M)) else (if 0 ≤ (720 + (2 * v1)) ∧ (720 + (2 * v1)) < 6097 then (if 0 ≤ ((720 + (2 * v1)) + 1) ∧ ((720 + (2 * v1)) + 1) < 6097 then (if inR ((M 216 (720 + (2 * v1)).toNat) + (M 216 ((720 + (2 * v1)) + 1).toNat)) then (if inR (M 216 863) then (if (M 216 863) ≠ 0 then (zlt (wr M 216 (720 + (2 * v1)).toNat (((M 216 (720 + (2 * v1)).toNat) + (M 216 ((720 + (2 * v1)) + 1).toNat)).tmod (M 216 863))) fun M8 => zbnd (f_X10_cutIn (M8 216 (720 + (2 * v1)).toNat) M8) fun r9 M10 => f_X10_roam_b2 n (v1 + 1) M10) else none) else none) else none) else none) else none)) else none) else none
def f_X10_roam (M : Mem) : Option (Int × Mem) :=
  f_X10_roam_b2 100000 0 M
def f_X10_passDay_b76 (M : Mem) : Option (Int × Mem) :=
  zlt (wr M 216 862 ((M 216 862) + 1)) fun M23 => some (0, M23)
def f_X10_passDay_b2 : Nat → Int → Mem → Option (Int × Mem)
  | 0, _, _ => none
  | n + 1, v1, M => if inR v1 then (if 16 ≤ v1 then (zbnd (f_X10_roam M) fun r2 M3 => zbnd (f_X10_grow M3) fun r5 M6 => zbnd (f_X10_drive M6) fun r8 M9 => if inR ((M9 216 862) + 1) then (if inR (M9 216 860) then (if (M9 216 860) ≠ 0 then (if inR (((M9 216 862) + 1).tmod (M9 216 860)) then (if (((M9 216 862) + 1).tmod (M9 216 860)) = 0 then (zbnd (f_X10_postAll M9) fun r15 M16 => f_X10_passDay_b76 M16) else (f_X10_passDay_b76 M9)) else none) else none) else none) else none) else (if 0 ≤ (432 + v1) ∧ (432 + v1) < 6097 then (if inR ((M 216 (432 + v1).toNat) * 3) then (zlt (wr M 216 (432 + v1).toNat (((M 216 (432 + v1).toNat) * 3).tdiv 4)) fun M21 => f_X10_passDay_b2 n (v1 + 1) M21) else none) else none)) else none
def f_X10_passDay (M : Mem) : Option (Int × Mem) :=
  f_X10_passDay_b2 100000 0 M
def f_X10_movesIn_b100 (t1 : Int) (M : Mem) : Option (Int × Mem) :=
  some (t1, M)
def f_X10_movesIn_b79 (v3 : Int) (t1 : Int) (M : Mem) : Option (Int × Mem) :=
  zbnd (f_X10_copy 5226 0 M) fun r24 M25 => if inR t1 then (if t1 = 0 then (f_X10_movesIn_b100 (-5) M25) else (f_X10_movesIn_b100 v3 M25)) else none
def f_X10_movesIn_b60 (v1 : Int) (v2 : Int) (v3 : Int) (M : Mem) : Option (Int × Mem) :=
  if 0 ≤ (448 + v1) ∧ (448 + v1) < 6097 then (if inR (M 216 (448 + v1).toNat) then (if inR v2 then (if (M 216 (448 + v1).toNat) = v2 then (f_X10_movesIn_b79 v3 0 M) else (f_X10_movesIn_b79 v3 1 M)) else none) else none) else none
def f_X10_movesIn_b30 : Nat → Int → Int → Int → Mem → Option (Int × Mem)
  | 0, _, _, _, _ => none
  | n + 1, v1, v2, v3, M => if inR v3 then (if 60 ≤ v3 then (f_X10_movesIn_b60 v1 v2 v3 M) else (if 0 ≤ (448 + v1) ∧ (448 + v1) < 6097 then (if inR (M 216 (448 + v1).toNat) then (if inR v2 then (if (M 216 (448 + v1).toNat) = v2 then (zbnd (f_X10_passDay M) fun r15 M16 => f_X10_movesIn_b30 n v1 v2 (v3 + 1) M16) else (f_X10_movesIn_b60 v1 v2 v3 M)) else none) else none) else none)) else none
def f_X10_movesIn (v1 : Int) (M : Mem) : Option (Int × Mem) :=
  zbnd (f_X10_isShard v1 M) fun r1 M2 => if inR r1 then (if r1 = 0 then (some ((-1), M2)) else (zbnd (f_X10_copy 0 5226 M2) fun r5 M6 => if 0 ≤ (448 + v1) ∧ (448 + v1) < 6097 then (zlt (M6 216 (448 + v1).toNat) fun x9 => f_X10_movesIn_b30 100000 v1 x9 0 M6) else none)) else none
def f_X10_pass_b47 : Nat → Int → Int → Int → Mem → Option (Int × Mem)
  | 0, _, _, _, _ => none
  | n + 1, v1, v2, v3, M => if inR v3 then (if inR v1 then (if v1 ≤ v3 then (some ((M 216 866) - v2, M)) else (zbnd (f_X10_passDay M) fun r14 M15 => f_X10_pass_b47 n v1 v2 (v3 + 1) M15)) else none) else none
def f_X10_pass (v1 : Int) (M : Mem) : Option (Int × Mem) :=
  zbnd (f_X10_in v1 1 60 M) fun r1 M2 => if inR r1 then (if r1 = 0 then (some ((-2), M2)) else (if inR ((M2 216 862) + v1) then (if ((M2 216 862) + v1) ≤ 9999 then (zbnd (f_X10_record M2) fun r6 M7 => zlt (M7 216 866) fun x9 => f_X10_pass_b47 100000 v1 x9 0 M7) else (some ((-4), M2))) else none)) else none
def f_X10_wolvesIn_b38 (g4 : Int → Int → Int → Mem → Option (Int × Mem)) (v1 : Int) (v3 : Int) (t2 : Int) (t1 : Int) (M : Mem) : Option (Int × Mem) :=
  zlt (t1 + t2) fun x8 => g4 v1 x8 (v3 + 1) M
def f_X10_wolvesIn_b4 : Nat → Int → Int → Int → Mem → Option (Int × Mem)
  | 0, _, _, _, _ => none
  | n + 1, v1, v2, v3, M => if inR v3 then (if inR (M 216 864) then (if (M 216 864) ≤ v3 then (some (v2, M)) else (if 0 ≤ (720 + (2 * v3)) ∧ (720 + (2 * v3)) < 6097 then (if inR (M 216 (720 + (2 * v3)).toNat) then (if inR v1 then (if (M 216 (720 + (2 * v3)).toNat) = v1 then (f_X10_wolvesIn_b38 (f_X10_wolvesIn_b4 n) v1 v3 1 v2 M) else (f_X10_wolvesIn_b38 (f_X10_wolvesIn_b4 n) v1 v3 0 v2 M)) else none) else none) else none)) else none) else none
def f_X10_wolvesIn (v1 : Int) (M : Mem) : Option (Int × Mem) :=
  f_X10_wolvesIn_b4 100000 v1 0 0 M
def f_X10_pasture_b60 (v1 : Int) (v2 : Int) (M : Mem) : Option (Int × Mem) :=
  if 0 ≤ ((0 + (4 * v1)) + v2) ∧ ((0 + (4 * v1)) + v2) < 6097 then (some (M 216 ((0 + (4 * v1)) + v2).toNat, M)) else none
def f_X10_pasture (v1 : Int) (v2 : Int) (M : Mem) : Option (Int × Mem) :=
  zbnd (f_X10_isPasture v1 M) fun r1 M2 => if inR r1 then (if r1 = 0 then (some ((-1), M2)) else (if inR v2 then (if v2 = 0 then (f_X10_pasture_b60 v1 v2 M2) else if v2 = 1 then (f_X10_pasture_b60 v1 v2 M2) else if v2 = 2 then (f_X10_pasture_b60 v1 v2 M2) else if v2 = 3 then (zbnd (f_X10_shardsIn v1 M2) fun r9 M10 => some (r9, M10)) else if v2 = 4 then (zbnd (f_X10_tracksIn v1 M2) fun r13 M14 => some (r13, M14)) else if v2 = 5 then (zbnd (f_X10_distanceOf v1 M2) fun r17 M18 => some (r17, M18)) else if v2 = 6 then (zbnd (f_X10_heatIn v1 M2) fun r21 M22 => some (r21, M22)) else if v2 = 7 then (zbnd (f_X10_wolvesIn v1 M2) fun r25 M26 => some (r25, M26)) else if v2 = 8 then (if 0 ≤ ((0 + (4 * v1)) + 3) ∧ ((0 + (4 * v1)) + 3) < 6097 then (some (M2 216 ((0 + (4 * v1)) + 3).toNat, M2)) else none) else (some ((-2), M2))) else none)) else none
def f_X10_post (M : Mem) : Option (Int × Mem) :=
  zbnd (f_X10_inns M) fun r1 M2 => if inR r1 then (if r1 = 0 then (some ((-5), M2)) else (zbnd (f_X10_record M2) fun r5 M6 => zbnd (f_X10_postAll M6) fun r8 M9 => some (r1, M9))) else none
def f_X10_put (v1 : Int) (v2 : Int) (M : Mem) : Option (Int × Mem) :=
  if 0 ≤ v1 ∧ v1 < 6097 then (zlt (M 216 v1.toNat) fun x2 => if inR x2 then (if inR v2 then (if x2 = v2 then (some ((-5), M)) else (zbnd (f_X10_record M) fun r5 M6 => zlt (wr M6 216 v1.toNat v2) fun M8 => some (x2, M8))) else none) else none) else none
def f_X10_reach_b15 (M : Mem) : Option (Int × Mem) :=
  some ((-1), M)
def f_X10_reach_b103 (t1 : Int) (M : Mem) : Option (Int × Mem) :=
  some (t1, M)
def f_X10_reach (v1 : Int) (v2 : Int) (v3 : Int) (M : Mem) : Option (Int × Mem) :=
  zbnd (f_X10_isReader v1 M) fun r1 M2 => if inR r1 then (if r1 = 0 then (f_X10_reach_b15 M2) else (zbnd (f_X10_isKey v2 M2) fun r5 M6 => if inR r5 then (if r5 = 0 then (f_X10_reach_b15 M6) else (zbnd (f_X10_in v3 0 4 M6) fun r9 M10 => if inR r9 then (if r9 = 0 then (some ((-2), M10)) else (if inR v2 then (zbnd (f_X10_findWay v1 (v2.tdiv 16) M10) fun r14 M15 => if inR v3 then (if v3 = 0 then (f_X10_reach_b103 (M15 215 7) M15) else (if v3 = 1 then (f_X10_reach_b103 (M15 215 8) M15) else (if v3 = 2 then (zbnd (f_X10_bits (M15 215 9) M15) fun r24 M25 => f_X10_reach_b103 r24 M25) else (if v3 = 3 then (zbnd (f_X10_bits (M15 215 10) M15) fun r20 M21 => f_X10_reach_b103 r20 M21) else (if inR (M15 215 11) then (if (M15 215 11) = 0 then (f_X10_reach_b103 0 M15) else (f_X10_reach_b103 1 M15)) else none))))) else none) else none)) else none)) else none)) else none
def f_X10_reachFor_b130 (g86 : Int → Int → Mem → Option (Int × Mem)) (v1 : Int) (v5 : Int) (t4 : Int) (t3 : Int) (t2 : Int) (M : Mem) : Option (Int × Mem) :=
  if 0 ≤ t2 ∧ t2 < 6097 then (zlt (wr M 216 t2.toNat (t3 + t4)) fun M39 => g86 v1 (v5 + 1) M39) else none
def f_X10_reachFor_b274 (t4 : Int) (t3 : Int) (t2 : Int) (M : Mem) : Option (Int × Mem) :=
  if 0 ≤ t2 ∧ t2 < 6097 then (zlt (wr M 216 t2.toNat (t3 + t4)) fun M46 => some (M46 215 7, M46)) else none
def f_X10_reachFor_b240 (t3 : Int) (t2 : Int) (M : Mem) : Option (Int × Mem) :=
  if 0 ≤ t2 ∧ t2 < 6097 then (zlt (wr M 216 t2.toNat t3) fun M41 => zlt (wr M41 216 869 ((M41 216 869) + 1)) fun M42 => if inR (M42 215 11) then (if (M42 215 11) = 0 then (f_X10_reachFor_b274 0 (M42 216 870) 870 M42) else (f_X10_reachFor_b274 1 (M42 216 870) 870 M42)) else none) else none
def f_X10_reachFor_b198 (v5 : Int) (t4 : Int) (t3 : Int) (t2 : Int) (M : Mem) : Option (Int × Mem) :=
  if 0 ≤ t2 ∧ t2 < 6097 then (zlt (wr M 216 t2.toNat (t3 + t4)) fun M33 => if 0 ≤ (v5 + 4) ∧ (v5 + 4) < 6097 then (if inR (M33 215 7) then (if inR (M33 216 (v5 + 4).toNat) then (if (M33 215 7) ≤ (M33 216 (v5 + 4).toNat) then (f_X10_reachFor_b240 (M33 216 (v5 + 4).toNat) (v5 + 4) M33) else (f_X10_reachFor_b240 (M33 215 7) (v5 + 4) M33)) else none) else none) else none) else none
def f_X10_reachFor_b86 : Nat → Int → Int → Mem → Option (Int × Mem)
  | 0, _, _, _ => none
  | n + 1, v1, v5, M => if inR v5 then (if inR (M 216 863) then (if (M 216 863) ≤ v5 then (zlt (726 + (5 * v1)) fun x17 => if 0 ≤ (x17 + 1) ∧ (x17 + 1) < 6097 then (zlt (wr M 216 (x17 + 1).toNat ((M 216 (x17 + 1).toNat) + 1)) fun M19 => if 0 ≤ (x17 + 2) ∧ (x17 + 2) < 6097 then (zlt (wr M19 216 (x17 + 2).toNat ((M19 216 (x17 + 2).toNat) + (M19 215 7))) fun M21 => if 0 ≤ (x17 + 3) ∧ (x17 + 3) < 6097 then (if inR (M21 215 11) then (if (M21 215 11) = 0 then (f_X10_reachFor_b198 x17 0 (M21 216 (x17 + 3).toNat) (x17 + 3) M21) else (f_X10_reachFor_b198 x17 1 (M21 216 (x17 + 3).toNat) (x17 + 3) M21)) else none) else none) else none) else none) else (if 0 ≤ ((0 + (4 * v5)) + 3) ∧ ((0 + (4 * v5)) + 3) < 6097 then (zbnd (f_X10_has (M 215 10) v5 M) fun r26 M27 => if inR r26 then (if r26 = 0 then (f_X10_reachFor_b130 (f_X10_reachFor_b86 n) v1 v5 0 (M 216 ((0 + (4 * v5)) + 3).toNat) ((0 + (4 * v5)) + 3) M27) else (f_X10_reachFor_b130 (f_X10_reachFor_b86 n) v1 v5 1 (M 216 ((0 + (4 * v5)) + 3).toNat) ((0 + (4 * v5)) + 3) M27)) else none) else none)) else none) else none
def f_X10_reachFor_b57 (v1 : Int) (v3 : Int) (t3 : Int) (t2 : Int) (M : Mem) : Option (Int × Mem) :=
  if 0 ≤ t2 ∧ t2 < 6097 then (zlt (wr M 216 t2.toNat t3) fun M11 => if 0 ≤ (416 + v3) ∧ (416 + v3) < 6097 then (if 0 ≤ ((756 + (16 * v1)) + v3) ∧ ((756 + (16 * v1)) + v3) < 6097 then (zlt (wr M11 216 ((756 + (16 * v1)) + v3).toNat (M11 216 (416 + v3).toNat)) fun M14 => f_X10_reachFor_b86 100000 v1 0 M14) else none) else none) else none
def f_X10_reachFor (v1 : Int) (v2 : Int) (M : Mem) : Option (Int × Mem) :=
  if inR v2 then (zlt (v2.tdiv 16) fun x2 => zbnd (f_X10_findWay v1 x2 M) fun r3 M4 => if 0 ≤ (432 + x2) ∧ (432 + x2) < 6097 then (zlt ((M4 216 (432 + x2).toNat) + (M4 216 861)) fun x7 => if inR x7 then (if x7 ≤ 9999 then (f_X10_reachFor_b57 v1 x2 x7 (432 + x2) M4) else (f_X10_reachFor_b57 v1 x2 9999 (432 + x2) M4)) else none) else none) else none
def f_X10_readRequests_b107 (g31 : Int → Int → Mem → Option (Int × Mem)) (g51 : Int → Int → Int → Int → Mem → Option (Int × Mem)) (v2 : Int) (v3 : Int) (v4 : Int) (v5 : Int) (t3 : Int) (t2 : Int) (M : Mem) : Option (Int × Mem) :=
  if 0 ≤ t2 ∧ t2 < 6097 then (zlt (wr M 216 t2.toNat t3) fun M42 => g51 v2 v3 v4 (v5 + 1) M42) else none
def f_X10_readRequests_b51 (g31 : Int → Int → Mem → Option (Int × Mem)) : Nat → Int → Int → Int → Int → Mem → Option (Int × Mem)
  | 0, _, _, _, _, _ => none
  | n + 1, v2, v3, v4, v5, M => zbnd (f_X10_nextBehind v3 M) fun r20 M21 => if inR v5 then (if inR (r20 - 1) then (if (r20 - 1) ≤ v5 then (if 0 ≤ v3 ∧ v3 < 60 then (zbnd (f_X10_reachFor ((M21 217 v3.toNat) - 48) v4 M21) fun r26 M27 => zlt (v2 + r26) fun x29 => zbnd (f_X10_nextBehind v3 M27) fun r30 M31 => g31 x29 r30 M31) else none) else (if 0 ≤ v5 ∧ v5 < 60 then (if inR (M21 217 v5.toNat) then (if (M21 217 v5.toNat) = 61 then (zbnd (f_X10_numberAt (v5 + 1) M21) fun r36 M37 => f_X10_readRequests_b107 g31 (f_X10_readRequests_b51 g31 n) v2 v3 v4 v5 r36 (464 + v4) M37) else (if 0 ≤ (464 + v4) ∧ (464 + v4) < 6097 then (f_X10_readRequests_b107 g31 (f_X10_readRequests_b51 g31 n) v2 v3 v4 v5 (M21 216 (464 + v4).toNat) (464 + v4) M21) else none)) else none) else none)) else none) else none
def f_X10_readRequests_b31 : Nat → Int → Int → Mem → Option (Int × Mem)
  | 0, _, _, _ => none
  | n + 1, v2, v3, M => if inR v3 then (if inR (M 215 4) then (if (M 215 4) ≤ v3 then (some (v2, M)) else (zbnd (f_X10_numberAt (v3 + 2) M) fun r16 M17 => f_X10_readRequests_b51 (f_X10_readRequests_b31 n) 100000 v2 v3 r16 v3 M17)) else none) else none
def f_X10_readRequests (M : Mem) : Option (Int × Mem) :=
  zbnd (f_X10_faultOf M) fun r1 M2 => if inR r1 then (if r1 < 0 then (zbnd (f_X10_areKnown M2) fun r5 M6 => if inR r5 then (if r5 = 0 then (some ((-1), M6)) else (zbnd (f_X10_record M6) fun r9 M10 => f_X10_readRequests_b31 100000 0 0 M10)) else none) else (some ((-100) - r1, M2))) else none
def f_X10_reader_b38 (t1 : Int) (M : Mem) : Option (Int × Mem) :=
  some (t1, M)
def f_X10_reader (v1 : Int) (v2 : Int) (M : Mem) : Option (Int × Mem) :=
  zbnd (f_X10_isReader v1 M) fun r1 M2 => if inR r1 then (if r1 = 0 then (some ((-1), M2)) else (zbnd (f_X10_in v2 0 4 M2) fun r5 M6 => if inR r5 then (if r5 = 0 then (f_X10_reader_b38 (-2) M6) else (if 0 ≤ ((726 + (5 * v1)) + v2) ∧ ((726 + (5 * v1)) + v2) < 6097 then (f_X10_reader_b38 (M6 216 ((726 + (5 * v1)) + v2).toNat) M6) else none)) else none)) else none
def f_X10_remembered_b34 (t1 : Int) (M : Mem) : Option (Int × Mem) :=
  some (t1, M)
def f_X10_remembered_b33 (M : Mem) : Option (Int × Mem) :=
  f_X10_remembered_b34 (-1) M
def f_X10_remembered (v1 : Int) (v2 : Int) (M : Mem) : Option (Int × Mem) :=
  zbnd (f_X10_isReader v1 M) fun r1 M2 => if inR r1 then (if r1 = 0 then (f_X10_remembered_b33 M2) else (zbnd (f_X10_isShard v2 M2) fun r5 M6 => if inR r5 then (if r5 = 0 then (f_X10_remembered_b33 M6) else (if 0 ≤ ((756 + (16 * v1)) + v2) ∧ ((756 + (16 * v1)) + v2) < 6097 then (f_X10_remembered_b34 (M6 216 ((756 + (16 * v1)) + v2).toNat) M6) else none)) else none)) else none
def f_X10_request_b15 (M : Mem) : Option (Int × Mem) :=
  some ((-1), M)
def f_X10_request (v1 : Int) (v2 : Int) (M : Mem) : Option (Int × Mem) :=
  zbnd (f_X10_isReader v1 M) fun r1 M2 => if inR r1 then (if r1 = 0 then (f_X10_request_b15 M2) else (zbnd (f_X10_isKey v2 M2) fun r5 M6 => if inR r5 then (if r5 = 0 then (f_X10_request_b15 M6) else (zbnd (f_X10_record M6) fun r9 M10 => zbnd (f_X10_reachFor v1 v2 M10) fun r12 M13 => some (r12, M13))) else none)) else none
def f_X10_restore (M : Mem) : Option (Int × Mem) :=
  if inR (M 215 2) then (if (M 215 2) = 0 then (some ((-5), M)) else (zbnd (f_X10_record M) fun r2 M3 => zbnd (f_X10_copy 4355 0 M3) fun r5 M6 => some (M6 216 862, M6))) else none
def f_X10_set_b23 (t1 : Int) (M : Mem) : Option (Int × Mem) :=
  some (t1, M)
def f_X10_set (v1 : Int) (v2 : Int) (M : Mem) : Option (Int × Mem) :=
  zbnd (f_X10_isSetting v1 v2 M) fun r1 M2 => if inR r1 then (if r1 = 0 then (f_X10_set_b23 (-2) M2) else (zbnd (f_X10_put (856 + v1) v2 M2) fun r5 M6 => f_X10_set_b23 r5 M6)) else none
def f_X10_setInn_b49 : Nat → Int → Int → Mem → Option (Int × Mem)
  | 0, _, _, _ => none
  | n + 1, v1, v3, M => if inR v3 then (if 16 ≤ v3 then (zbnd (f_X10_inns M) fun r19 M20 => some (r19, M20)) else (if 0 ≤ ((32 + (16 * v1)) + v3) ∧ ((32 + (16 * v1)) + v3) < 6097 then (zlt (wr M 216 ((32 + (16 * v1)) + v3).toNat 0) fun M23 => f_X10_setInn_b49 n v1 (v3 + 1) M23) else none)) else none
def f_X10_setInn_b46 (v1 : Int) (t3 : Int) (t2 : Int) (M : Mem) : Option (Int × Mem) :=
  if 0 ≤ t2 ∧ t2 < 6097 then (zlt (wr M 216 t2.toNat t3) fun M17 => f_X10_setInn_b49 100000 v1 0 M17) else none
def f_X10_setInn (v1 : Int) (v2 : Int) (M : Mem) : Option (Int × Mem) :=
  zbnd (f_X10_isPasture v1 M) fun r1 M2 => if inR r1 then (if r1 = 0 then (some ((-1), M2)) else (zbnd (f_X10_hasInn v1 M2) fun r5 M6 => if inR r5 then (if inR v2 then (if r5 = v2 then (some ((-5), M6)) else (zbnd (f_X10_record M6) fun r10 M11 => if v2 = 0 then (f_X10_setInn_b46 v1 0 ((0 + (4 * v1)) + 2) M11) else (f_X10_setInn_b46 v1 1 ((0 + (4 * v1)) + 2) M11))) else none) else none)) else none
def f_X10_setRoom (v1 : Int) (v2 : Int) (M : Mem) : Option (Int × Mem) :=
  zbnd (f_X10_isPasture v1 M) fun r1 M2 => if inR r1 then (if r1 = 0 then (some ((-1), M2)) else (zbnd (f_X10_in v2 1 16 M2) fun r5 M6 => if inR r5 then (if r5 = 0 then (some ((-2), M6)) else (zbnd (f_X10_shardsIn v1 M6) fun r9 M10 => if inR r9 then (if inR v2 then (if r9 ≤ v2 then (zbnd (f_X10_roomOf v1 M10) fun r14 M15 => if inR r14 then (if r14 = v2 then (some ((-5), M15)) else (zbnd (f_X10_record M15) fun r18 M19 => if 0 ≤ ((0 + (4 * v1)) + 1) ∧ ((0 + (4 * v1)) + 1) < 6097 then (zlt (wr M19 216 ((0 + (4 * v1)) + 1).toNat v2) fun M22 => some (r14, M22)) else none)) else none) else (some ((-4), M10))) else none) else none)) else none)) else none
def f_X10_setSeason_b34 (t1 : Int) (M : Mem) : Option (Int × Mem) :=
  some (t1, M)
def f_X10_setSeason_b32 (M : Mem) : Option (Int × Mem) :=
  f_X10_setSeason_b34 (-2) M
def f_X10_setSeason (v1 : Int) (v2 : Int) (M : Mem) : Option (Int × Mem) :=
  zbnd (f_X10_in v1 0 3 M) fun r1 M2 => if inR r1 then (if r1 = 0 then (f_X10_setSeason_b32 M2) else (zbnd (f_X10_in v2 0 90 M2) fun r5 M6 => if inR r5 then (if r5 = 0 then (f_X10_setSeason_b32 M6) else (zbnd (f_X10_put (852 + v1) v2 M6) fun r9 M10 => f_X10_setSeason_b34 r9 M10)) else none)) else none
def f_X10_sumOf_b4 : Nat → Int → Int → Int → Mem → Option (Int × Mem)
  | 0, _, _, _, _ => none
  | n + 1, v1, v2, v3, M => if inR v3 then (if 16 ≤ v3 then (some (v2, M)) else (if 0 ≤ ((464 + (16 * v1)) + v3) ∧ ((464 + (16 * v1)) + v3) < 6097 then (zlt (v2 + (M 216 ((464 + (16 * v1)) + v3).toNat)) fun x3 => f_X10_sumOf_b4 n v1 x3 (v3 + 1) M) else none)) else none
def f_X10_sumOf (v1 : Int) (M : Mem) : Option (Int × Mem) :=
  f_X10_sumOf_b4 100000 v1 0 0 M
def f_X10_tracksOf_b31 (g4 : Int → Int → Int → Mem → Option (Int × Mem)) (v1 : Int) (v3 : Int) (t2 : Int) (t1 : Int) (M : Mem) : Option (Int × Mem) :=
  zlt (t1 + t2) fun x9 => g4 v1 x9 (v3 + 1) M
def f_X10_tracksOf_b4 : Nat → Int → Int → Int → Mem → Option (Int × Mem)
  | 0, _, _, _, _ => none
  | n + 1, v1, v2, v3, M => if inR v3 then (if inR (M 216 863) then (if (M 216 863) ≤ v3 then (some (v2, M)) else (zbnd (f_X10_hasTrack v3 v1 M) fun r3 M4 => if inR r3 then (if r3 = 0 then (f_X10_tracksOf_b31 (f_X10_tracksOf_b4 n) v1 v3 0 v2 M4) else (f_X10_tracksOf_b31 (f_X10_tracksOf_b4 n) v1 v3 1 v2 M4)) else none)) else none) else none
def f_X10_tracksOf (v1 : Int) (M : Mem) : Option (Int × Mem) :=
  f_X10_tracksOf_b4 100000 v1 0 0 M
def f_X10_shard (v1 : Int) (v2 : Int) (M : Mem) : Option (Int × Mem) :=
  zbnd (f_X10_isShard v1 M) fun r1 M2 => if inR r1 then (if r1 = 0 then (some ((-1), M2)) else (if inR v2 then (if v2 = 0 then (if 0 ≤ (416 + v1) ∧ (416 + v1) < 6097 then (some (M2 216 (416 + v1).toNat, M2)) else none) else if v2 = 1 then (if 0 ≤ (432 + v1) ∧ (432 + v1) < 6097 then (some (M2 216 (432 + v1).toNat, M2)) else none) else if v2 = 2 then (if 0 ≤ (448 + v1) ∧ (448 + v1) < 6097 then (some (M2 216 (448 + v1).toNat, M2)) else none) else if v2 = 3 then (zbnd (f_X10_tracksOf v1 M2) fun r12 M13 => some (r12, M13)) else if v2 = 4 then (zbnd (f_X10_orderOf v1 M2) fun r16 M17 => some (r16, M17)) else if v2 = 5 then (zbnd (f_X10_lookedAt v1 M2) fun r20 M21 => some (r20, M21)) else if v2 = 6 then (zbnd (f_X10_sumOf v1 M2) fun r24 M25 => some (r24, M25)) else (some ((-2), M2))) else none)) else none
def f_X10_track_b15 (M : Mem) : Option (Int × Mem) :=
  some ((-1), M)
def f_X10_track_b99 (t1 : Int) (M : Mem) : Option (Int × Mem) :=
  some (t1, M)
def f_X10_track_b62 (v1 : Int) (v2 : Int) (v3 : Int) (t1 : Int) (M : Mem) : Option (Int × Mem) :=
  if inR t1 then (if t1 = 0 then (f_X10_track_b99 (-5) M) else (if inR v3 then (if v3 = 1 then (zbnd (f_X10_at 288 v1 v2 M) fun r28 M29 => if 0 ≤ r28 ∧ r28 < 6097 then (f_X10_track_b99 (M29 216 r28.toNat) M29) else none) else (f_X10_track_b99 (t1 - 1) M)) else none)) else none
def f_X10_track (v1 : Int) (v2 : Int) (v3 : Int) (M : Mem) : Option (Int × Mem) :=
  zbnd (f_X10_isPasture v1 M) fun r1 M2 => if inR r1 then (if r1 = 0 then (f_X10_track_b15 M2) else (zbnd (f_X10_isShard v2 M2) fun r5 M6 => if inR r5 then (if r5 = 0 then (f_X10_track_b15 M6) else (zbnd (f_X10_in v3 0 2 M6) fun r9 M10 => if inR r9 then (if r9 = 0 then (some ((-2), M10)) else (if inR v3 then (if v3 = 2 then (zbnd (f_X10_at 32 v1 v2 M10) fun r18 M19 => if 0 ≤ r18 ∧ r18 < 6097 then (f_X10_track_b62 v1 v2 v3 (M19 216 r18.toNat) M19) else none) else (zbnd (f_X10_at 160 v1 v2 M10) fun r14 M15 => if 0 ≤ r14 ∧ r14 < 6097 then (f_X10_track_b62 v1 v2 v3 (M15 216 r14.toNat) M15) else none)) else none)) else none)) else none)) else none
def f_X10_type (v1 : Int) (M : Mem) : Option (Int × Mem) :=
  if inR (M 215 4) then (if (M 215 4) = 60 then (some ((-3), M)) else (if 0 ≤ (M 215 4) ∧ (M 215 4) < 60 then (zlt (wr M 217 (M 215 4).toNat v1) fun M3 => zlt (wr M3 215 4 ((M3 215 4) + 1)) fun M4 => some (M4 215 4, M4)) else none)) else none
def f_X10_undo (M : Mem) : Option (Int × Mem) :=
  if inR (M 215 1) then (if (M 215 1) = 0 then (some ((-5), M)) else (zlt (wr M 215 1 ((M 215 1) - 1)) fun M2 => zbnd (f_X10_copy (871 + (871 * (M2 215 1))) 0 M2) fun r3 M4 => some (M4 215 1, M4))) else none
def f_X10_value_b21 (t1 : Int) (M : Mem) : Option (Int × Mem) :=
  some (t1, M)
def f_X10_value (v1 : Int) (M : Mem) : Option (Int × Mem) :=
  zbnd (f_X10_isKey v1 M) fun r1 M2 => if inR r1 then (if r1 = 0 then (f_X10_value_b21 (-1) M2) else (if 0 ≤ (464 + v1) ∧ (464 + v1) < 6097 then (f_X10_value_b21 (M2 216 (464 + v1).toNat) M2) else none)) else none
def f_X10_way_b15 (M : Mem) : Option (Int × Mem) :=
  some ((-1), M)
def f_X10_way_b52 (t1 : Int) (M : Mem) : Option (Int × Mem) :=
  some (t1, M)
def f_X10_way (v1 : Int) (v2 : Int) (v3 : Int) (M : Mem) : Option (Int × Mem) :=
  zbnd (f_X10_isReader v1 M) fun r1 M2 => if inR r1 then (if r1 = 0 then (f_X10_way_b15 M2) else (zbnd (f_X10_isKey v2 M2) fun r5 M6 => if inR r5 then (if r5 = 0 then (f_X10_way_b15 M6) else (if inR v3 then (if 0 ≤ v3 then (if inR v2 then (zbnd (f_X10_findWay v1 (v2.tdiv 16) M6) fun r11 M12 => if inR (M12 215 6) then (if (M12 215 6) ≤ v3 then (f_X10_way_b52 (-5) M12) else (if 0 ≤ v3 ∧ v3 < 160 then (f_X10_way_b52 (M12 218 v3.toNat) M12) else none)) else none) else none) else (some ((-2), M6))) else none)) else none)) else none
def f_X10_write_b15 (M : Mem) : Option (Int × Mem) :=
  some ((-1), M)
def f_X10_write (v1 : Int) (v2 : Int) (v3 : Int) (M : Mem) : Option (Int × Mem) :=
  zbnd (f_X10_isReader v1 M) fun r1 M2 => if inR r1 then (if r1 = 0 then (f_X10_write_b15 M2) else (zbnd (f_X10_isKey v2 M2) fun r5 M6 => if inR r5 then (if r5 = 0 then (f_X10_write_b15 M6) else (zbnd (f_X10_in v3 0 9999 M6) fun r9 M10 => if inR r9 then (if r9 = 0 then (some ((-2), M10)) else (zbnd (f_X10_record M10) fun r13 M14 => if 0 ≤ (464 + v2) ∧ (464 + v2) < 6097 then (zlt (wr M14 216 (464 + v2).toNat v3) fun M17 => zbnd (f_X10_reachFor v1 v2 M17) fun r18 M19 => some (r18, M19)) else none)) else none)) else none)) else none

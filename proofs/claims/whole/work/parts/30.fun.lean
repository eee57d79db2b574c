def fBlocks_copy_0 (σ : Sg) (a : Nat) (as0 : Nat) (ak0 : Nat) (an0 : Nat) (as1 : Nat) (ak1 : Nat) (an1 : Nat) : Option (Sg) :=
  gd (acg 0 0 (σ a 15 0) an0 an1) (lt (upA σ as1 ak1 (va_cpy (σ as0 ak0) (σ as1 ak1) (0 : Int32).toNatClampNeg (0 : Int32).toNatClampNeg (σ a 15 0).toNatClampNeg)) (fun σ1 => some σ1))
def fBlocks_copy (σ : Sg) (a : Nat) (as0 : Nat) (ak0 : Nat) (an0 : Nat) (as1 : Nat) (ak1 : Nat) (an1 : Nat) : Option (Sg) := fBlocks_copy_0 σ a as0 ak0 an0 as1 ak1 an1 
def fBlocks_copyFrom_0 (σ : Sg) (a : Nat) (b : Nat) : Option (Sg) :=
  lt (upA σ a 15 (upd (σ a 15) 0 (σ b 15 0))) (fun σ1 => bp (fBlocks_copy σ1 a b 16 300 a 16 300) (fun σ2 => bp (fBlocks_copy σ2 a b 17 300 a 17 300) (fun σ3 => bp (fBlocks_copy σ3 a b 18 300 a 18 300) (fun σ4 => bp (fBlocks_copy σ4 a b 19 300 a 19 300) (fun σ5 => bp (fBlocks_copy σ5 a b 20 300 a 20 300) (fun σ6 => bp (fBlocks_copy σ6 a b 21 300 a 21 300) (fun σ7 => some σ7)))))))
def fBlocks_copyFrom (σ : Sg) (a : Nat) (b : Nat) : Option (Sg) := fBlocks_copyFrom_0 σ a b 
def fBlocks_has_0 (σ : Sg) (a : Nat) (v1 : Int32) : Option (Int32) :=
  if v1 < 0 then some 0 else if (σ a 15 0) ≤ v1 then some 0 else some 1
def fBlocks_has (σ : Sg) (a : Nat) (v1 : Int32) : Option (Int32) := fBlocks_has_0 σ a v1
def fBlocks_isSalt_0 (σ : Sg) (a : Nat) (v1 : Int32) : Option (Int32) :=
  if v1 < 0 then some 0 else if (σ a 15 0) ≤ v1 then some 0 else gd (ib v1 300) ((if (σ a 16 v1.toNatClampNeg) = 2 then some 1 else some 0))
def fBlocks_isSalt (σ : Sg) (a : Nat) (v1 : Int32) : Option (Int32) := fBlocks_isSalt_0 σ a v1
def fBlocks_isInRoom_0 (σ : Sg) (a : Nat) (v1 : Int32) : Option (Int32) :=
  bp (fBlocks_has σ a v1) (fun y1 => (if y1 = 0 then some 0 else gd (ib v1 300) ((if (σ a 18 v1.toNatClampNeg) = ((-1)) then some 0 else some 1))))
def fBlocks_isInRoom (σ : Sg) (a : Nat) (v1 : Int32) : Option (Int32) := fBlocks_isInRoom_0 σ a v1
def fBlocks_leave_0 (σ : Sg) (a : Nat) (v1 : Int32) : Option (Sg) :=
  gd (ib v1 300) (lt (upA σ a 18 (upd (σ a 18) v1.toNatClampNeg ((-1)))) (fun σ1 => gd (ib v1 300) (lt (upA σ1 a 19 (upd (σ1 a 19) v1.toNatClampNeg ((-1)))) (fun σ2 => some σ2))))
def fBlocks_leave (σ : Sg) (a : Nat) (v1 : Int32) : Option (Sg) := fBlocks_leave_0 σ a v1
def fBook_empty_0 (σ : Sg) : Option (Sg) :=
  lt (upA σ 8 0 (upd (σ 8 0) 0 0)) (fun σ1 => gd (isb 0) (lt (upA σ1 8 0 (upd (σ1 8 0) 1 0)) (fun σ2 => some σ2)))
def fBook_empty (σ : Sg) : Option (Sg) := fBook_empty_0 σ  
def fMelting_leftOf_0 (σ : Sg) (v1 : Int32) : Option (Int32) :=
  if (σ 6 2 2) ≤ v1 then some v1 else some 0
def fMelting_leftOf (σ : Sg) (v1 : Int32) : Option (Int32) := fMelting_leftOf_0 σ  v1
def fI_within_0 (σ : Sg) (v0 : Int32) (v1 : Int32) (v2 : Int32) : Option (Int32) :=
  if v0 < v1 then some 0 else if v2 < v0 then some 0 else some 1
def fI_within (σ : Sg) (v0 : Int32) (v1 : Int32) (v2 : Int32) : Option (Int32) := fI_within_0 σ  v0 v1 v2
def fMelting_lossWeighed_0 (σ : Sg) (v1 : Int32) : Option (Int32) :=
  bp (fI_within σ v1 0 299) (fun y1 => (if y1 = 0 then some 0 else gd (ib v1 300) (some (σ 6 12 v1.toNatClampNeg))))
def fMelting_lossWeighed (σ : Sg) (v1 : Int32) : Option (Int32) := fMelting_lossWeighed_0 σ  v1
def fBook_writeLine_0 (σ : Sg) (b : Nat) (v2 : Int32) : Option (Sg) :=
  lt ((σ 8 0 0) * 6) (fun y1 => bp (fMelting_lossWeighed σ v2) (fun y2 => gd (ib y1 1800) (lt (upA σ 8 1 (upd (σ 8 1) y1.toNatClampNeg v2)) (fun σ3 => gd (ib v2 300) (gd (ib (y1 + 1) 1800) (lt (upA σ3 8 1 (upd (σ3 8 1) (y1 + 1).toNatClampNeg (σ3 b 18 v2.toNatClampNeg))) (fun σ4 => gd (ib v2 300) (gd (ib (y1 + 2) 1800) (lt (upA σ4 8 1 (upd (σ4 8 1) (y1 + 2).toNatClampNeg (σ4 b 19 v2.toNatClampNeg))) (fun σ5 => gd (ib v2 300) (gd (ib (y1 + 3) 1800) (lt (upA σ5 8 1 (upd (σ5 8 1) (y1 + 3).toNatClampNeg (σ5 b 17 v2.toNatClampNeg))) (fun σ6 => gd (ib (y1 + 4) 1800) (lt (upA σ6 8 1 (upd (σ6 8 1) (y1 + 4).toNatClampNeg y2)) (fun σ7 => gd (ib v2 300) (bp (fMelting_leftOf σ7 ((σ7 b 17 v2.toNatClampNeg) - y2)) (fun y8 => gd (ib (y1 + 5) 1800) (lt (upA σ7 8 1 (upd (σ7 8 1) (y1 + 5).toNatClampNeg y8)) (fun σ9 => lt (upA σ9 8 0 (upd (σ9 8 0) 0 ((σ9 8 0 0) + 1))) (fun σ10 => some σ10))))))))))))))))))))
def fBook_writeLine (σ : Sg) (b : Nat) (v2 : Int32) : Option (Sg) := fBook_writeLine_0 σ b v2
def fBook_write_38 (k12 : Sg → Int32 → Option (Sg)) (σ : Sg) (b : Nat) (x3 : Int32) : Option (Sg) :=
  lt (x3 + 1) (fun y6 => k12 σ y6)
def fBook_write_12_b (k12 : Sg → Int32 → Option (Sg)) (σ : Sg) (b : Nat) (x3 : Int32) : Option (Sg) :=
  if (σ b 15 0) ≤ x3 then gd (acg 0 0 ((σ 8 0 0) * 6) 1800 1800) (lt (upA σ 8 2 (va_cpy (σ 8 1) (σ 8 2) (0 : Int32).toNatClampNeg (0 : Int32).toNatClampNeg ((σ 8 0 0) * 6).toNatClampNeg)) (fun σ3 => some σ3)) else bp (fMelting_lossWeighed σ x3) (fun y4 => (if y4 ≤ 0 then fBook_write_38 k12 σ b x3 else bp (fBook_writeLine σ b x3) (fun σ5 => fBook_write_38 k12 σ5 b x3)))
def fBook_write_12 (n : Nat) (σ : Sg) (b : Nat) (x3 : Int32) : Option (Sg) := match n with
  | 0 => none
  | n + 1 => fBook_write_12_b  (fun σ x3 => fBook_write_12  n σ b x3) σ b x3
def fBook_write_0 (σ : Sg) (b : Nat) : Option (Sg) :=
  lt (upA σ 8 0 (upd (σ 8 0) 0 0)) (fun σ1 => gd (isb 1) (lt (upA σ1 8 0 (upd (σ1 8 0) 1 1)) (fun σ2 => fBook_write_12 FU σ2 b 0)))
def fBook_write (σ : Sg) (b : Nat) : Option (Sg) := fBook_write_0 σ b 
def fBook_number_0 (σ : Sg) (v1 : Int32) (v2 : Int32) : Option (Int32) :=
  gd (ib ((v1 * 6) + v2) 1800) (some (σ 8 2 ((v1 * 6) + v2).toNatClampNeg))
def fBook_number (σ : Sg) (v1 : Int32) (v2 : Int32) : Option (Int32) := fBook_number_0 σ  v1 v2
def fBook_change_0 (σ : Sg) (v1 : Int32) (v2 : Int32) (v3 : Int32) : Option (Sg) :=
  gd (ib ((v1 * 6) + v2) 1800) (gd (ib ((v1 * 6) + v2) 1800) (lt (upA σ 8 2 (upd (σ 8 2) ((v1 * 6) + v2).toNatClampNeg ((σ 8 2 ((v1 * 6) + v2).toNatClampNeg) ^^^ v3))) (fun σ1 => some σ1)))
def fBook_change (σ : Sg) (v1 : Int32) (v2 : Int32) (v3 : Int32) : Option (Sg) := fBook_change_0 σ  v1 v2 v3
def fBook_firstWrong_2_b (k2 : Int32 → Option (Int32)) (σ : Sg) (x1 : Int32) : Option (Int32) :=
  if ((σ 8 0 0) * 6) ≤ x1 then some ((-1)) else gd (ib x1 1800) (gd (ib x1 1800) ((if (σ 8 2 x1.toNatClampNeg) = (σ 8 1 x1.toNatClampNeg) then lt (x1 + 1) (fun y1 => k2 y1) else some (x1 / 6))))
def fBook_firstWrong_2 (n : Nat) (σ : Sg) (x1 : Int32) : Option (Int32) := match n with
  | 0 => none
  | n + 1 => fBook_firstWrong_2_b  (fun x1 => fBook_firstWrong_2  n σ  x1) σ  x1
def fBook_firstWrong_0 (σ : Sg) : Option (Int32) :=
  fBook_firstWrong_2 FU σ 0
def fBook_firstWrong (σ : Sg) : Option (Int32) := fBook_firstWrong_0 σ  
def fCalendar_tenthsOf_0 (σ : Sg) (v1 : Int32) : Option (Int32) :=
  bp (fI_within σ v1 0 199) (fun y1 => (if y1 = 0 then gd (ib 199 200) (some (σ 6 10 (199 : Int32).toNatClampNeg)) else gd (ib v1 200) (some (σ 6 10 v1.toNatClampNeg))))
def fCalendar_tenthsOf (σ : Sg) (v1 : Int32) : Option (Int32) := fCalendar_tenthsOf_0 σ  v1
def fCalendar_carryOnFrom_40 (k2 : Sg → Int32 → Option (Sg)) (σ : Sg) (x2 : Int32) : Option (Sg) :=
  lt (x2 + 1) (fun y2 => k2 σ y2)
def fCalendar_carryOnFrom_39 (k2 : Sg → Int32 → Option (Sg)) (σ : Sg) (x2 : Int32) (t0 : Int32) (t1 : Int32) : Option (Sg) :=
  gd (ib t1 200) (lt (upA σ 6 10 (upd (σ 6 10) t1.toNatClampNeg t0)) (fun σ1 => fCalendar_carryOnFrom_40 k2 σ1 x2))
def fCalendar_carryOnFrom_2_b (k2 : Sg → Int32 → Option (Sg)) (σ : Sg) (x2 : Int32) : Option (Sg) :=
  if 199 < x2 then some σ else gd (ib x2 200) ((if (σ 6 9 x2.toNatClampNeg) = 0 then if x2 = 0 then fCalendar_carryOnFrom_39 k2 σ x2 0 x2 else gd (ib (x2 - 1) 200) (fCalendar_carryOnFrom_39 k2 σ x2 (σ 6 10 (x2 - 1).toNatClampNeg) x2) else fCalendar_carryOnFrom_40 k2 σ x2))
def fCalendar_carryOnFrom_2 (n : Nat) (σ : Sg) (x2 : Int32) : Option (Sg) := match n with
  | 0 => none
  | n + 1 => fCalendar_carryOnFrom_2_b  (fun σ x2 => fCalendar_carryOnFrom_2  n σ  x2) σ  x2
def fCalendar_carryOnFrom_0 (σ : Sg) (v1 : Int32) : Option (Sg) :=
  fCalendar_carryOnFrom_2 FU σ v1
def fCalendar_carryOnFrom (σ : Sg) (v1 : Int32) : Option (Sg) := fCalendar_carryOnFrom_0 σ  v1
def fCalendar_numberOf_39_b (k39 : Int32 → UInt32 → Int32 → Option (UInt32)) (σ : Sg) (x0 : Int32) (x3 : UInt32) (x4 : Int32) : Option (UInt32) :=
  if 150 ≤ x4 then if 0 ≤ x0 then some x3 else gd (nn32 (FP.fsub FP.fconst0 x3)) (some (FP.fsub FP.fconst0 x3)) else gd (nn32 (FP.fdiv x3 FP.fconst2)) (lt (FP.fdiv x3 FP.fconst2) (fun y6 => lt (x4 + 1) (fun y7 => k39 x0 y6 y7)))
def fCalendar_numberOf_39 (n : Nat) (σ : Sg) (x0 : Int32) (x3 : UInt32) (x4 : Int32) : Option (UInt32) := match n with
  | 0 => none
  | n + 1 => fCalendar_numberOf_39_b  (fun x0 x3 x4 => fCalendar_numberOf_39  n σ  x0 x3 x4) σ  x0 x3 x4
def fCalendar_numberOf_37 (σ : Sg) (x0 : Int32) (x3 : UInt32) (t0 : Int32) : Option (UInt32) :=
  fCalendar_numberOf_39 FU σ x0 x3 t0
def fCalendar_numberOf_26 (σ : Sg) (x0 : Int32) (x1 : Int32) (t0 : Int32) : Option (UInt32) :=
  lt (FP.i2f t0) (fun y3 => (if x1 = 0 then fCalendar_numberOf_37 σ x0 y3 1 else fCalendar_numberOf_37 σ x0 y3 x1))
def fCalendar_numberOf_0 (σ : Sg) (v0 : Int32) : Option (UInt32) :=
  lt (((v0.toUInt32 >>> ((23 : Int32).toUInt32 &&& Int32.toUInt32 31)).toInt32) &&& 255) (fun y1 => lt (v0 &&& 8388607) (fun y2 => (if y1 = 0 then fCalendar_numberOf_26 σ v0 y1 y2 else fCalendar_numberOf_26 σ v0 y1 (y2 ||| 8388608))))
def fCalendar_numberOf (σ : Sg) (v0 : Int32) : Option (UInt32) := fCalendar_numberOf_0 σ  v0
def fCalendar_tell_58 (σ : Sg) (x1 : Int32) : Option (Int32 × Sg) :=
  bp (fCalendar_carryOnFrom σ x1) (fun σ6 => some (1, σ6))
def fCalendar_tell_31 (σ : Sg) (x1 : Int32) (x2 : Int32) (x4 : Int32) : Option (Int32 × Sg) :=
  gd (ib x1 200) (lt (upA σ 6 9 (upd (σ 6 9) x1.toNatClampNeg (vp_nar .boolean x4))) (fun σ2 => (if x4 = 0 then fCalendar_tell_58 σ2 x1 else bp (fCalendar_numberOf σ2 x2) (fun y3 => gd (nn32 (FP.fmul y3 1092616192)) (gd (ib x1 200) (lt (upA σ2 6 10 (upd (σ2 6 10) x1.toNatClampNeg (FP.f2i (FP.fmul y3 1092616192)))) (fun σ5 => fCalendar_tell_58 σ5 x1)))))))
def fCalendar_tell_16 (σ : Sg) (x1 : Int32) (x2 : Int32) (x3 : Int32) (t0 : Int32) : Option (Int32 × Sg) :=
  if t0 = 0 then fCalendar_tell_31 σ x1 x2 t0 else if x3 ≤ 1114636288 then fCalendar_tell_31 σ x1 x2 t0 else some (0, σ)
def fCalendar_tell_0 (σ : Sg) (v1 : Int32) (v2 : Int32) : Option (Int32 × Sg) :=
  lt (v2 &&& 2147483647) (fun y1 => (if 2139095040 < y1 then fCalendar_tell_16 σ v1 v2 y1 0 else fCalendar_tell_16 σ v1 v2 y1 1))
def fCalendar_tell (σ : Sg) (v1 : Int32) (v2 : Int32) : Option (Int32 × Sg) := fCalendar_tell_0 σ  v1 v2
def fStore_gramsIn_40 (k4 : Int32 → Int32 → Int32 → Option (Int32)) (σ : Sg) (a : Nat) (x1 : Int32) (x2 : Int32) (x3 : Int32) : Option (Int32) :=
  lt (x3 + 1) (fun y2 => k4 x1 x2 y2)
def fStore_gramsIn_4_b (k4 : Int32 → Int32 → Int32 → Option (Int32)) (σ : Sg) (a : Nat) (x1 : Int32) (x2 : Int32) (x3 : Int32) : Option (Int32) :=
  if (σ a 15 0) ≤ x3 then some x2 else gd (ib x3 300) ((if (σ a 18 x3.toNatClampNeg) = x1 then gd (ib x3 300) (lt (x2 + (σ a 17 x3.toNatClampNeg)) (fun y1 => fStore_gramsIn_40 k4 σ a x1 y1 x3)) else fStore_gramsIn_40 k4 σ a x1 x2 x3))
def fStore_gramsIn_4 (n : Nat) (σ : Sg) (a : Nat) (x1 : Int32) (x2 : Int32) (x3 : Int32) : Option (Int32) := match n with
  | 0 => none
  | n + 1 => fStore_gramsIn_4_b  (fun x1 x2 x3 => fStore_gramsIn_4  n σ a x1 x2 x3) σ a x1 x2 x3
def fStore_gramsIn_0 (σ : Sg) (a : Nat) (v1 : Int32) : Option (Int32) :=
  fStore_gramsIn_4 FU σ a v1 0 0
def fStore_gramsIn (σ : Sg) (a : Nat) (v1 : Int32) : Option (Int32) := fStore_gramsIn_0 σ a v1
def fForecast_writeRow_17_b (k17 : Sg → Int32 → Int32 → Option (Sg)) (σ : Sg) (b : Nat) (x2 : Int32) (x3 : Int32) : Option (Sg) :=
  if (σ 9 0 2) ≤ x3 then some σ else bp (fStore_gramsIn σ b x3) (fun y3 => gd (ib ((x2 + 1) + x3) 1800) (lt (upA σ 9 1 (upd (σ 9 1) ((x2 + 1) + x3).toNatClampNeg y3)) (fun σ4 => gd (ib x2 1800) (gd (ib ((x2 + 1) + x3) 1800) (gd (ib x2 1800) (lt (upA σ4 9 1 (upd (σ4 9 1) x2.toNatClampNeg ((σ4 9 1 x2.toNatClampNeg) + (σ4 9 1 ((x2 + 1) + x3).toNatClampNeg)))) (fun σ5 => lt (x3 + 1) (fun y6 => k17 σ5 x2 y6))))))))
def fForecast_writeRow_17 (n : Nat) (σ : Sg) (b : Nat) (x2 : Int32) (x3 : Int32) : Option (Sg) := match n with
  | 0 => none
  | n + 1 => fForecast_writeRow_17_b  (fun σ x2 x3 => fForecast_writeRow_17  n σ b x2 x3) σ b x2 x3
def fForecast_writeRow_0 (σ : Sg) (b : Nat) : Option (Sg) :=
  lt ((σ 9 0 0) * 9) (fun y1 => gd (ib y1 1800) (lt (upA σ 9 1 (upd (σ 9 1) y1.toNatClampNeg 0)) (fun σ2 => fForecast_writeRow_17 FU σ2 b y1 0)))
def fForecast_writeRow (σ : Sg) (b : Nat) : Option (Sg) := fForecast_writeRow_0 σ b 
def fStore_blocksIn_31 (k4 : Int32 → Int32 → Int32 → Option (Int32)) (σ : Sg) (a : Nat) (x1 : Int32) (x2 : Int32) (x3 : Int32) : Option (Int32) :=
  lt (x3 + 1) (fun y2 => k4 x1 x2 y2)
def fStore_blocksIn_4_b (k4 : Int32 → Int32 → Int32 → Option (Int32)) (σ : Sg) (a : Nat) (x1 : Int32) (x2 : Int32) (x3 : Int32) : Option (Int32) :=
  if (σ a 15 0) ≤ x3 then some x2 else gd (ib x3 300) ((if (σ a 18 x3.toNatClampNeg) = x1 then lt (x2 + 1) (fun y1 => fStore_blocksIn_31 k4 σ a x1 y1 x3) else fStore_blocksIn_31 k4 σ a x1 x2 x3))
def fStore_blocksIn_4 (n : Nat) (σ : Sg) (a : Nat) (x1 : Int32) (x2 : Int32) (x3 : Int32) : Option (Int32) := match n with
  | 0 => none
  | n + 1 => fStore_blocksIn_4_b  (fun x1 x2 x3 => fStore_blocksIn_4  n σ a x1 x2 x3) σ a x1 x2 x3
def fStore_blocksIn_0 (σ : Sg) (a : Nat) (v1 : Int32) : Option (Int32) :=
  fStore_blocksIn_4 FU σ a v1 0 0
def fStore_blocksIn (σ : Sg) (a : Nat) (v1 : Int32) : Option (Int32) := fStore_blocksIn_0 σ a v1
def fStore_blocksInRooms_0 (σ : Sg) (a : Nat) : Option (Int32) :=
  bp (fStore_blocksIn σ a ((-1))) (fun y1 => some ((σ a 15 0) - y1))
def fStore_blocksInRooms (σ : Sg) (a : Nat) : Option (Int32) := fStore_blocksInRooms_0 σ a 
def fForecast_begin_35 (σ : Sg) (b : Nat) (t0 : Int32) : Option (Sg) :=
  lt (upA σ 9 0 (upd (σ 9 0) 1 t0)) (fun σ4 => bp (fForecast_writeRow σ4 b) (fun σ5 => some σ5))
def fForecast_begin_0 (σ : Sg) (b : Nat) : Option (Sg) :=
  lt (upA σ 9 0 (upd (σ 9 0) 0 0)) (fun σ1 => lt (upA σ1 9 0 (upd (σ1 9 0) 2 (σ1 b 1 0))) (fun σ2 => bp (fStore_blocksInRooms σ2 b) (fun y3 => (if y3 = 0 then fForecast_begin_35 σ2 b ((σ2 b 0 0) - 1) else fForecast_begin_35 σ2 b ((-2))))))
def fForecast_begin (σ : Sg) (b : Nat) : Option (Sg) := fForecast_begin_0 σ b 
def fForecast_note_0 (σ : Sg) (b : Nat) : Option (Sg) :=
  if (σ 9 0 0) < 199 then lt (upA σ 9 0 (upd (σ 9 0) 0 ((σ 9 0 0) + 1))) (fun σ1 => bp (fForecast_writeRow σ1 b) (fun σ2 => (if (σ2 9 0 1) = ((-2)) then bp (fStore_blocksInRooms σ2 b) (fun y3 => (if y3 = 0 then lt (upA σ2 9 0 (upd (σ2 9 0) 1 ((σ2 b 0 0) - 1))) (fun σ4 => some σ4) else some σ2)) else some σ2))) else some σ
def fForecast_note (σ : Sg) (b : Nat) : Option (Sg) := fForecast_note_0 σ b 
def fForecast_gramsBehind_31 (σ : Sg) (x1 : Int32) (x2 : Int32) (t0 : Int32) : Option (Int32) :=
  if t0 = 0 then some ((-1)) else gd (ib (((x2 * 9) + 1) + x1) 1800) (some (σ 9 1 (((x2 * 9) + 1) + x1).toNatClampNeg))
def fForecast_gramsBehind_30 (σ : Sg) (x1 : Int32) (x2 : Int32) : Option (Int32) :=
  fForecast_gramsBehind_31 σ x1 x2 0
def fForecast_gramsBehind_0 (σ : Sg) (v1 : Int32) (v2 : Int32) : Option (Int32) :=
  bp (fI_within σ v1 ((-1)) ((σ 9 0 2) - 1)) (fun y1 => (if y1 = 0 then fForecast_gramsBehind_30 σ v1 v2 else bp (fI_within σ v2 0 (σ 9 0 0)) (fun y2 => (if y2 = 0 then fForecast_gramsBehind_30 σ v1 v2 else fForecast_gramsBehind_31 σ v1 v2 1))))
def fForecast_gramsBehind (σ : Sg) (v1 : Int32) (v2 : Int32) : Option (Int32) := fForecast_gramsBehind_0 σ  v1 v2
def fHeap_add_0 (σ : Sg) (v1 : Int32) (v2 : Int32) : Option (Int32 × Sg) :=
  gd (ib (σ 6 4 0) 30) (lt (upA σ 6 16 (upd (σ 6 16) (σ 6 4 0).toNatClampNeg v1)) (fun σ1 => gd (ib (σ1 6 4 0) 30) (lt (upA σ1 6 17 (upd (σ1 6 17) (σ1 6 4 0).toNatClampNeg v2)) (fun σ2 => lt (upA σ2 6 4 (upd (σ2 6 4) 0 ((σ2 6 4 0) + 1))) (fun σ3 => some (σ3 6 4 0, σ3))))))
def fHeap_add (σ : Sg) (v1 : Int32) (v2 : Int32) : Option (Int32 × Sg) := fHeap_add_0 σ  v1 v2
def fJourney_stretch_0 (σ : Sg) (v1 : Int32) (v2 : Int32) : Option (Int32 × Sg) :=
  gd (ib (σ 6 3 0) 6) (lt (upA σ 6 14 (upd (σ 6 14) (σ 6 3 0).toNatClampNeg v1)) (fun σ1 => gd (ib (σ1 6 3 0) 6) (lt (upA σ1 6 15 (upd (σ1 6 15) (σ1 6 3 0).toNatClampNeg v2)) (fun σ2 => lt (upA σ2 6 3 (upd (σ2 6 3) 0 ((σ2 6 3 0) + 1))) (fun σ3 => some (σ3 6 3 0, σ3))))))
def fJourney_stretch (σ : Sg) (v1 : Int32) (v2 : Int32) : Option (Int32 × Sg) := fJourney_stretch_0 σ  v1 v2
def fJourney_daysInAll_4_b (k4 : Int32 → Int32 → Option (Int32)) (σ : Sg) (x1 : Int32) (x2 : Int32) : Option (Int32) :=
  if (σ 6 3 0) ≤ x2 then some x1 else gd (ib x2 6) (lt (x1 + (σ 6 15 x2.toNatClampNeg)) (fun y1 => lt (x2 + 1) (fun y2 => k4 y1 y2)))
def fJourney_daysInAll_4 (n : Nat) (σ : Sg) (x1 : Int32) (x2 : Int32) : Option (Int32) := match n with
  | 0 => none
  | n + 1 => fJourney_daysInAll_4_b  (fun x1 x2 => fJourney_daysInAll_4  n σ  x1 x2) σ  x1 x2
def fJourney_daysInAll_0 (σ : Sg) : Option (Int32) :=
  fJourney_daysInAll_4 FU σ 0 0
def fJourney_daysInAll (σ : Sg) : Option (Int32) := fJourney_daysInAll_0 σ  
def fI_rateOf_0 (σ : Sg) (v0 : Int32) : Option (Int32) :=
  if v0 = 2 then some 5 else some 3
def fI_rateOf (σ : Sg) (v0 : Int32) : Option (Int32) := fI_rateOf_0 σ  v0
def fMelting_withoutSalt_36 (σ : Sg) (x1 : Int32) : Option (Int32) :=
  some ((x1 + 80) / 2)
def fMelting_withoutSalt_0 (σ : Sg) (v0 : Int32) (v1 : Int32) : Option (Int32) :=
  if v0 = 1 then fMelting_withoutSalt_36 σ v1 else (if v0 = 3 then some (v1 + 10) else (if v0 = 4 then some (v1 + 30) else (if v0 = 5 then fMelting_withoutSalt_36 σ v1 else (some v1))))
def fMelting_withoutSalt (σ : Sg) (v0 : Int32) (v1 : Int32) : Option (Int32) := fMelting_withoutSalt_0 σ  v0 v1
def fJourney_leaves_95 (k21 : Int32 → Int32 → Int32 → Int32 → Int32 → Int32 → Option (Int32)) (σ : Sg) (x1 : Int32) (x5 : Int32) (x6 : Int32) (x7 : Int32) (x8 : Int32) (x9 : Int32) : Option (Int32) :=
  lt (x7 + 1) (fun y6 => lt (x9 + 1) (fun y7 => k21 x1 x5 x6 y6 x8 y7))
def fJourney_leaves_71 (k21 : Int32 → Int32 → Int32 → Int32 → Int32 → Int32 → Option (Int32)) (σ : Sg) (x1 : Int32) (x5 : Int32) (x6 : Int32) (x7 : Int32) (x8 : Int32) (x9 : Int32) (t0 : Int32) : Option (Int32) :=
  lt (x6 - (if x6 < t0 then x6 else t0)) (fun y5 => (if x5 ≤ y5 then fJourney_leaves_95 k21 σ x1 x5 y5 x7 x8 x9 else fJourney_leaves_95 k21 σ x1 x5 0 x7 x8 x9))
def fJourney_leaves_21_b (k9 : Int32 → Int32 → Int32 → Int32 → Int32 → Option (Int32)) (k21 : Int32 → Int32 → Int32 → Int32 → Int32 → Int32 → Option (Int32)) (σ : Sg) (x1 : Int32) (x5 : Int32) (x6 : Int32) (x7 : Int32) (x8 : Int32) (x9 : Int32) : Option (Int32) :=
  gd (ib x8 6) ((if (σ 6 15 x8.toNatClampNeg) ≤ x9 then lt (x8 + 1) (fun y1 => k9 x1 x5 x6 x7 y1) else gd (ib x8 6) (bp (fCalendar_tenthsOf σ x7) (fun y2 => bp (fMelting_withoutSalt σ (σ 6 14 x8.toNatClampNeg) y2) (fun y3 => (if y3 ≤ 0 then fJourney_leaves_71 k21 σ x1 x5 x6 x7 x8 x9 0 else bp (fI_rateOf σ x1) (fun y4 => fJourney_leaves_71 k21 σ x1 x5 x6 x7 x8 x9 ((6 * y4) * y3))))))))
def fJourney_leaves_21 (k9 : Int32 → Int32 → Int32 → Int32 → Int32 → Option (Int32)) (n : Nat) (σ : Sg) (x1 : Int32) (x5 : Int32) (x6 : Int32) (x7 : Int32) (x8 : Int32) (x9 : Int32) : Option (Int32) := match n with
  | 0 => none
  | n + 1 => fJourney_leaves_21_b k9 (fun x1 x5 x6 x7 x8 x9 => fJourney_leaves_21 k9 n σ  x1 x5 x6 x7 x8 x9) σ  x1 x5 x6 x7 x8 x9
def fJourney_leaves_9_b (k9 : Int32 → Int32 → Int32 → Int32 → Int32 → Option (Int32)) (σ : Sg) (x1 : Int32) (x5 : Int32) (x6 : Int32) (x7 : Int32) (x8 : Int32) : Option (Int32) :=
  if (σ 6 3 0) ≤ x8 then some x6 else fJourney_leaves_21 k9 FU σ x1 x5 x6 x7 x8 0
def fJourney_leaves_9 (n : Nat) (σ : Sg) (x1 : Int32) (x5 : Int32) (x6 : Int32) (x7 : Int32) (x8 : Int32) : Option (Int32) := match n with
  | 0 => none
  | n + 1 => fJourney_leaves_9_b  (fun x1 x5 x6 x7 x8 => fJourney_leaves_9  n σ  x1 x5 x6 x7 x8) σ  x1 x5 x6 x7 x8
def fJourney_leaves_0 (σ : Sg) (v1 : Int32) (v2 : Int32) (v3 : Int32) (v5 : Int32) : Option (Int32) :=
  fJourney_leaves_9 FU σ v1 v5 v2 v3 0
def fJourney_leaves (σ : Sg) (v1 : Int32) (v2 : Int32) (v3 : Int32) (v5 : Int32) : Option (Int32) := fJourney_leaves_0 σ  v1 v2 v3 v5
def fRooms_has_0 (σ : Sg) (a : Nat) (v1 : Int32) : Option (Int32) :=
  if v1 < 0 then some 0 else if (σ a 1 0) ≤ v1 then some 0 else some 1
def fRooms_has (σ : Sg) (a : Nat) (v1 : Int32) : Option (Int32) := fRooms_has_0 σ a v1
def fMelting_warmthIn_85 (σ : Sg) (b : Nat) (x3 : Int32) (x4 : Int32) (x5 : Int32) : Option (Int32) :=
  gd (ib x5 8) (bp (fMelting_withoutSalt σ (σ b 2 x5.toNatClampNeg) x3) (fun y6 => some (y6 - (2 * x4))))
def fMelting_warmthIn_17_b (k17 : Int32 → Int32 → Int32 → Int32 → Option (Int32)) (σ : Sg) (b : Nat) (x3 : Int32) (x4 : Int32) (x5 : Int32) (x6 : Int32) : Option (Int32) :=
  if 8 ≤ x6 then fMelting_warmthIn_85 σ b x3 x4 x5 else gd (ib x5 8) ((if (σ b 2 x5.toNatClampNeg) = 2 then gd (ib x5 8) (lt (σ b 6 x5.toNatClampNeg) (fun y2 => bp (fRooms_has σ b y2) (fun y3 => (if y3 = 0 then some 0 else gd (ib y2 8) (lt (x4 + (σ b 11 y2.toNatClampNeg)) (fun y4 => lt (x6 + 1) (fun y5 => k17 x3 y4 y2 y5))))))) else fMelting_warmthIn_85 σ b x3 x4 x5))
def fMelting_warmthIn_17 (n : Nat) (σ : Sg) (b : Nat) (x3 : Int32) (x4 : Int32) (x5 : Int32) (x6 : Int32) : Option (Int32) := match n with
  | 0 => none
  | n + 1 => fMelting_warmthIn_17_b  (fun x3 x4 x5 x6 => fMelting_warmthIn_17  n σ b x3 x4 x5 x6) σ b x3 x4 x5 x6
def fMelting_warmthIn_0 (σ : Sg) (b : Nat) (v2 : Int32) (v3 : Int32) : Option (Int32) :=
  gd (ib v2 8) (lt (σ b 11 v2.toNatClampNeg) (fun y1 => fMelting_warmthIn_17 FU σ b v3 y1 v2 0))
def fMelting_warmthIn (σ : Sg) (b : Nat) (v2 : Int32) (v3 : Int32) : Option (Int32) := fMelting_warmthIn_0 σ b v2 v3
def fRooms_hasDrainOnFloor_0 (σ : Sg) (a : Nat) (v1 : Int32) : Option (Int32) :=
  gd (ib v1 8) ((if (σ a 12 v1.toNatClampNeg) ≤ 0 then some 0 else some 1))
def fRooms_hasDrainOnFloor (σ : Sg) (a : Nat) (v1 : Int32) : Option (Int32) := fRooms_hasDrainOnFloor_0 σ a v1
def fRooms_isOnFloor_0 (σ : Sg) (a : Nat) (v1 : Int32) (v2 : Int32) : Option (Int32) :=
  gd (ib v1 8) ((if (σ a 7 v1.toNatClampNeg) ≤ v2 then some 0 else some 1))
def fRooms_isOnFloor (σ : Sg) (a : Nat) (v1 : Int32) (v2 : Int32) : Option (Int32) := fRooms_isOnFloor_0 σ a v1 v2
def fRooms_standsInWater_0 (σ : Sg) (a : Nat) (v1 : Int32) (v2 : Int32) : Option (Int32) :=
  gd (ib v1 8) ((if (σ a 2 v1.toNatClampNeg) = 5 then bp (fRooms_isOnFloor σ a v1 v2) (fun y1 => (if y1 = 0 then some 0 else bp (fRooms_hasDrainOnFloor σ a v1) (fun y2 => (if y2 = 0 then some 1 else some 0)))) else some 0))
def fRooms_standsInWater (σ : Sg) (a : Nat) (v1 : Int32) (v2 : Int32) : Option (Int32) := fRooms_standsInWater_0 σ a v1 v2
def fI_beside_0 (σ : Sg) (v0 : Int32) (v1 : Int32) (v2 : Int32) (v3 : Int32) (v4 : Int32) : Option (Int32) :=
  if v2 < 1 then some ((-1)) else if 1 ≤ v3 then lt (v2 * v3) (fun y1 => gd (nzi v2) (lt (v1 - v1 / v2 * v2) (fun y3 => gd (nzi v2) (gd (nzi v3) (lt ((v1 / v2) - (v1 / v2) / v3 * v3) (fun y6 => (if v0 = 0 then if y3 ≤ 0 then some ((-1)) else some (v1 - 1) else (if v0 = 1 then if (v2 - 1) ≤ y3 then some ((-1)) else some (v1 + 1) else (if v0 = 2 then if y6 ≤ 0 then some ((-1)) else some (v1 - v2) else (if v0 = 3 then if (v3 - 1) ≤ y6 then some ((-1)) else some (v1 + v2) else (if v0 = 4 then if v1 < y1 then some ((-1)) else some (v1 - y1) else (if (y1 * v4) ≤ (v1 + y1) then some ((-1)) else some (v1 + y1))))))))))))) else some ((-1))
def fI_beside (σ : Sg) (v0 : Int32) (v1 : Int32) (v2 : Int32) (v3 : Int32) (v4 : Int32) : Option (Int32) := fI_beside_0 σ  v0 v1 v2 v3 v4
def fRooms_at_31 (σ : Sg) (a : Nat) (x1 : Int32) (x2 : Int32) (t0 : Int32) : Option (Int32) :=
  if t0 = 0 then some 0 else gd (ib ((x1 * 180) + x2) 1440) (some (σ a 14 ((x1 * 180) + x2).toNatClampNeg))
def fRooms_at_30 (σ : Sg) (a : Nat) (x1 : Int32) (x2 : Int32) : Option (Int32) :=
  fRooms_at_31 σ a x1 x2 0
def fRooms_at_0 (σ : Sg) (a : Nat) (v1 : Int32) (v2 : Int32) : Option (Int32) :=
  if v1 < 0 then fRooms_at_30 σ a v1 v2 else if (σ a 1 0) ≤ v1 then fRooms_at_30 σ a v1 v2 else if v2 < 0 then fRooms_at_30 σ a v1 v2 else gd (ib v1 8) ((if (σ a 8 v1.toNatClampNeg) ≤ v2 then fRooms_at_30 σ a v1 v2 else fRooms_at_31 σ a v1 v2 1))
def fRooms_at (σ : Sg) (a : Nat) (v1 : Int32) (v2 : Int32) : Option (Int32) := fRooms_at_0 σ a v1 v2
def fSides_look_129 (k24 : Sg → Int32 → Int32 → Int32 → Option (Sg)) (σ : Sg) (b : Nat) (x2 : Int32) (x3 : Int32) (x5 : Int32) : Option (Sg) :=
  lt (x5 + 1) (fun y10 => k24 σ x2 x3 y10)
def fSides_look_24_b (k24 : Sg → Int32 → Int32 → Int32 → Option (Sg)) (σ : Sg) (b : Nat) (x2 : Int32) (x3 : Int32) (x5 : Int32) : Option (Sg) :=
  if 6 ≤ x5 then some σ else gd (ib x2 8) (gd (ib x2 8) (gd (ib x2 8) (bp (fI_beside σ x5 x3 (σ b 3 x2.toNatClampNeg) (σ b 4 x2.toNatClampNeg) (σ b 5 x2.toNatClampNeg)) (fun y4 => bp (fRooms_at σ b x2 y4) (fun y5 => (if y5 = 1 then lt (upA σ 6 11 (upd (σ 6 11) 1 ((σ 6 11 1) + 1))) (fun σ9 => fSides_look_129 k24 σ9 b x2 x3 x5) else if 10 ≤ y5 then bp (fBlocks_isSalt σ b (y5 - 10)) (fun y6 => (if y6 = 0 then fSides_look_129 k24 σ b x2 x3 x5 else gd (isb 1) (lt (upA σ 6 11 (upd (σ 6 11) 2 1)) (fun σ7 => fSides_look_129 k24 σ7 b x2 x3 x5)))) else lt (upA σ 6 11 (upd (σ 6 11) 0 ((σ 6 11 0) + 1))) (fun σ8 => fSides_look_129 k24 σ8 b x2 x3 x5)))))))
def fSides_look_24 (n : Nat) (σ : Sg) (b : Nat) (x2 : Int32) (x3 : Int32) (x5 : Int32) : Option (Sg) := match n with
  | 0 => none
  | n + 1 => fSides_look_24_b  (fun σ x2 x3 x5 => fSides_look_24  n σ b x2 x3 x5) σ b x2 x3 x5
def fSides_look_0 (σ : Sg) (b : Nat) (v2 : Int32) (v3 : Int32) : Option (Sg) :=
  lt (upA σ 6 11 (upd (σ 6 11) 0 0)) (fun σ1 => lt (upA σ1 6 11 (upd (σ1 6 11) 1 0)) (fun σ2 => gd (isb 0) (lt (upA σ2 6 11 (upd (σ2 6 11) 2 0)) (fun σ3 => fSides_look_24 FU σ3 b v2 v3 0))))
def fSides_look (σ : Sg) (b : Nat) (v2 : Int32) (v3 : Int32) : Option (Sg) := fSides_look_0 σ b v2 v3
def fMelting_lossOf_112 (σ : Sg) (b : Nat) (x2 : Int32) (x6 : Int32) : Option (Int32 × Sg) :=
  gd (ib x2 300) (some (if (σ b 17 x2.toNatClampNeg) < x6 then (σ b 17 x2.toNatClampNeg) else x6, σ))
def fMelting_lossOf_44 (σ : Sg) (b : Nat) (x2 : Int32) (x3 : Int32) (x4 : Int32) (x5 : Int32) (t0 : Int32) : Option (Int32 × Sg) :=
  if x3 ≤ 0 then fMelting_lossOf_112 σ b x2 t0 else gd (ib x2 300) (bp (fI_rateOf σ (σ b 16 x2.toNatClampNeg)) (fun y4 => lt (y4 * x3) (fun y5 => bp (fSides_look σ b x4 x5) (fun σ6 => lt (t0 + (((σ6 6 11 0) * y5) + ((σ6 6 11 1) * ((y5 * (σ6 6 2 0)) / 100)))) (fun y7 => fMelting_lossOf_112 σ6 b x2 y7)))))
def fMelting_lossOf_0 (σ : Sg) (b : Nat) (v2 : Int32) (v3 : Int32) : Option (Int32 × Sg) :=
  gd (ib v2 300) (lt (σ b 18 v2.toNatClampNeg) (fun y1 => gd (ib v2 300) (lt (σ b 19 v2.toNatClampNeg) (fun y2 => bp (fRooms_standsInWater σ b y1 y2) (fun y3 => (if y3 = 0 then fMelting_lossOf_44 σ b v2 v3 y1 y2 0 else fMelting_lossOf_44 σ b v2 v3 y1 y2 (σ 6 2 1)))))))
def fMelting_lossOf (σ : Sg) (b : Nat) (v2 : Int32) (v3 : Int32) : Option (Int32 × Sg) := fMelting_lossOf_0 σ b v2 v3
def fMelting_weigh_89 (k34 : Sg → Int32 → Option (Sg)) (σ : Sg) (b : Nat) (x3 : Int32) (t0 : Int32) (t1 : Int32) : Option (Sg) :=
  gd (ib t1 300) (lt (upA σ 6 12 (upd (σ 6 12) t1.toNatClampNeg t0)) (fun σ7 => lt (x3 + 1) (fun y8 => k34 σ7 y8)))
def fMelting_weigh_34_b (k34 : Sg → Int32 → Option (Sg)) (σ : Sg) (b : Nat) (x3 : Int32) : Option (Sg) :=
  if (σ b 15 0) ≤ x3 then some σ else bp (fBlocks_isInRoom σ b x3) (fun y4 => (if y4 = 0 then fMelting_weigh_89 k34 σ b x3 0 x3 else gd (ib x3 300) (gd (ib (σ b 18 x3.toNatClampNeg) 8) (bi (fMelting_lossOf σ b x3 (σ 6 13 (σ b 18 x3.toNatClampNeg).toNatClampNeg)) (fun y5 σ6 => fMelting_weigh_89 k34 σ6 b x3 y5 x3)))))
def fMelting_weigh_34 (n : Nat) (σ : Sg) (b : Nat) (x3 : Int32) : Option (Sg) := match n with
  | 0 => none
  | n + 1 => fMelting_weigh_34_b  (fun σ x3 => fMelting_weigh_34  n σ b x3) σ b x3
def fMelting_weigh_2_b (k2 : Sg → Int32 → Int32 → Option (Sg)) (σ : Sg) (b : Nat) (x2 : Int32) (x3 : Int32) : Option (Sg) :=
  if (σ b 1 0) ≤ x3 then fMelting_weigh_34 FU σ b 0 else bp (fMelting_warmthIn σ b x3 x2) (fun y1 => gd (ib x3 8) (lt (upA σ 6 13 (upd (σ 6 13) x3.toNatClampNeg y1)) (fun σ2 => lt (x3 + 1) (fun y3 => k2 σ2 x2 y3))))
def fMelting_weigh_2 (n : Nat) (σ : Sg) (b : Nat) (x2 : Int32) (x3 : Int32) : Option (Sg) := match n with
  | 0 => none
  | n + 1 => fMelting_weigh_2_b  (fun σ x2 x3 => fMelting_weigh_2  n σ b x2 x3) σ b x2 x3
def fMelting_weigh_0 (σ : Sg) (b : Nat) (v2 : Int32) : Option (Sg) :=
  fMelting_weigh_2 FU σ b v2 0
def fMelting_weigh (σ : Sg) (b : Nat) (v2 : Int32) : Option (Sg) := fMelting_weigh_0 σ b v2
def fRooms_isDrained_15_b (k15 : Int32 → Int32 → Int32 → Option (Int32)) (σ : Sg) (a : Nat) (x1 : Int32) (x3 : Int32) (x4 : Int32) : Option (Int32) :=
  if 5 ≤ x4 then some 0 else gd (ib x1 8) (lt (x3 - (σ a 7 x1.toNatClampNeg)) (fun y2 => bp (fRooms_at σ a x1 y2) (fun y3 => (if y3 = 2 then some 1 else lt (x4 + 1) (fun y4 => k15 x1 y2 y4)))))
def fRooms_isDrained_15 (n : Nat) (σ : Sg) (a : Nat) (x1 : Int32) (x3 : Int32) (x4 : Int32) : Option (Int32) := match n with
  | 0 => none
  | n + 1 => fRooms_isDrained_15_b  (fun x1 x3 x4 => fRooms_isDrained_15  n σ a x1 x3 x4) σ a x1 x3 x4
def fRooms_isDrained_0 (σ : Sg) (a : Nat) (v1 : Int32) (v2 : Int32) : Option (Int32) :=
  bp (fRooms_hasDrainOnFloor σ a v1) (fun y1 => (if y1 = 0 then fRooms_isDrained_15 FU σ a v1 v2 1 else some 1))
def fRooms_isDrained (σ : Sg) (a : Nat) (v1 : Int32) (v2 : Int32) : Option (Int32) := fRooms_isDrained_0 σ a v1 v2
def fRooms_hasPlace_0 (σ : Sg) (a : Nat) (v1 : Int32) (v2 : Int32) : Option (Int32) :=
  bp (fRooms_has σ a v1) (fun y1 => (if y1 = 0 then some 0 else if v2 < 0 then some 0 else gd (ib v1 8) ((if (σ a 8 v1.toNatClampNeg) ≤ v2 then some 0 else some 1))))
def fRooms_hasPlace (σ : Sg) (a : Nat) (v1 : Int32) (v2 : Int32) : Option (Int32) := fRooms_hasPlace_0 σ a v1 v2
def fRooms_fill_54 (σ : Sg) (a : Nat) (x1 : Int32) (x2 : Int32) (x3 : Int32) : Option (Sg) :=
  gd (ib ((x1 * 180) + x2) 1440) (lt (upA σ a 14 (upd (σ a 14) ((x1 * 180) + x2).toNatClampNeg x3)) (fun σ5 => some σ5))
def fRooms_fill_51 (σ : Sg) (a : Nat) (x1 : Int32) (x2 : Int32) (x3 : Int32) (t0 : Int32) (t1 : Int32) (t2 : Int32) (t3 : Int32) : Option (Sg) :=
  gd (ib t3 8) (lt (upA σ a 12 (upd (σ a 12) t3.toNatClampNeg (t2 + (t1 - t0)))) (fun σ4 => fRooms_fill_54 σ4 a x1 x2 x3))
def fRooms_fill_36 (σ : Sg) (a : Nat) (x1 : Int32) (x2 : Int32) (x3 : Int32) (t0 : Int32) (t1 : Int32) (t2 : Int32) : Option (Sg) :=
  bp (fRooms_at σ a x1 x2) (fun y3 => (if y3 = 2 then fRooms_fill_51 σ a x1 x2 x3 1 t0 t1 t2 else fRooms_fill_51 σ a x1 x2 x3 0 t0 t1 t2))
def fRooms_fill_0 (σ : Sg) (a : Nat) (v1 : Int32) (v2 : Int32) (v3 : Int32) : Option (Sg) :=
  bp (fRooms_hasPlace σ a v1 v2) (fun y1 => (if y1 = 0 then some σ else bp (fRooms_isOnFloor σ a v1 v2) (fun y2 => (if y2 = 0 then fRooms_fill_54 σ a v1 v2 v3 else gd (ib v1 8) ((if v3 = 2 then fRooms_fill_36 σ a v1 v2 v3 1 (σ a 12 v1.toNatClampNeg) v1 else fRooms_fill_36 σ a v1 v2 v3 0 (σ a 12 v1.toNatClampNeg) v1))))))
def fRooms_fill (σ : Sg) (a : Nat) (v1 : Int32) (v2 : Int32) (v3 : Int32) : Option (Sg) := fRooms_fill_0 σ a v1 v2 v3
def fStore_liftUp_54 (σ : Sg) (a : Nat) (t0 : Int32) (t1 : Int32) (t2 : Int32) : Option (Sg) :=
  gd (ib t2 8) (lt (upA σ a 11 (upd (σ a 11) t2.toNatClampNeg (t1 - t0))) (fun σ4 => some σ4))
def fStore_liftUp_0 (σ : Sg) (a : Nat) (v1 : Int32) : Option (Sg) :=
  gd (ib v1 300) (lt (σ a 18 v1.toNatClampNeg) (fun y1 => gd (ib v1 300) (bp (fRooms_fill σ a y1 (σ a 19 v1.toNatClampNeg) 0) (fun σ2 => gd (ib y1 8) (bp (fBlocks_isSalt σ2 a v1) (fun y3 => (if y3 = 0 then fStore_liftUp_54 σ2 a 0 (σ2 a 11 y1.toNatClampNeg) y1 else fStore_liftUp_54 σ2 a 1 (σ2 a 11 y1.toNatClampNeg) y1)))))))
def fStore_liftUp (σ : Sg) (a : Nat) (v1 : Int32) : Option (Sg) := fStore_liftUp_0 σ a v1
def fMelting_lose_76 (σ : Sg) (b : Nat) (x2 : Int32) : Option (Sg) :=
  gd (ib x2 300) (gd (ib x2 300) (lt ((σ b 17 x2.toNatClampNeg) - (σ 6 12 x2.toNatClampNeg)) (fun y6 => bp (fMelting_leftOf σ y6) (fun y7 => gd (ib x2 300) (lt (upA σ b 17 (upd (σ b 17) x2.toNatClampNeg y7)) (fun σ8 => (if (σ8 6 2 2) ≤ y6 then some σ8 else lt (upA σ8 b 0 (upd (σ8 b 0) 4 ((σ8 b 0 4) + y6))) (fun σ9 => bp (fStore_liftUp σ9 b x2) (fun σ10 => bp (fBlocks_leave σ10 b x2) (fun σ11 => some σ11))))))))))
def fMelting_lose_0 (σ : Sg) (b : Nat) (v2 : Int32) : Option (Sg) :=
  gd (ib v2 300) (lt (σ b 18 v2.toNatClampNeg) (fun y1 => gd (ib v2 300) (lt (σ b 19 v2.toNatClampNeg) (fun y2 => bp (fRooms_isDrained σ b y1 y2) (fun y3 => (if y3 = 0 then gd (ib y1 8) (gd (ib v2 300) (gd (ib y1 8) (lt (upA σ b 10 (upd (σ b 10) y1.toNatClampNeg ((σ b 10 y1.toNatClampNeg) + (σ 6 12 v2.toNatClampNeg)))) (fun σ4 => fMelting_lose_76 σ4 b v2)))) else gd (ib y1 8) (gd (ib v2 300) (gd (ib y1 8) (lt (upA σ b 9 (upd (σ b 9) y1.toNatClampNeg ((σ b 9 y1.toNatClampNeg) + (σ 6 12 v2.toNatClampNeg)))) (fun σ5 => fMelting_lose_76 σ5 b v2))))))))))
def fMelting_lose (σ : Sg) (b : Nat) (v2 : Int32) : Option (Sg) := fMelting_lose_0 σ b v2
def fMelting_spoil_86 (σ : Sg) (b : Nat) (x2 : Int32) : Option (Sg) :=
  gd (ib x2 300) (lt (upA σ b 21 (upd (σ b 21) x2.toNatClampNeg (σ b 0 0))) (fun σ4 => some σ4))
def fMelting_spoil_0 (σ : Sg) (b : Nat) (v2 : Int32) : Option (Sg) :=
  gd (ib v2 300) ((if (σ b 16 v2.toNatClampNeg) = 1 then bp (fBlocks_isInRoom σ b v2) (fun y1 => (if y1 = 0 then some σ else gd (ib v2 300) ((if (σ b 21 v2.toNatClampNeg) = ((-1)) then gd (ib v2 300) (gd (ib v2 300) (bp (fSides_look σ b (σ b 18 v2.toNatClampNeg) (σ b 19 v2.toNatClampNeg)) (fun σ2 => (if (σ2 6 11 2) = 0 then gd (ib v2 300) (gd (ib v2 300) (bp (fRooms_standsInWater σ2 b (σ2 b 18 v2.toNatClampNeg) (σ2 b 19 v2.toNatClampNeg)) (fun y3 => (if y3 = 0 then some σ2 else fMelting_spoil_86 σ2 b v2)))) else fMelting_spoil_86 σ2 b v2)))) else some σ)))) else some σ))
def fMelting_spoil (σ : Sg) (b : Nat) (v2 : Int32) : Option (Sg) := fMelting_spoil_0 σ b v2
def fMelting_passDay_66 (k29 : Sg → Int32 → Int32 → Option (Int32 × Sg)) (σ : Sg) (b : Nat) (x2 : Int32) (x3 : Int32) : Option (Int32 × Sg) :=
  lt (x3 + 1) (fun y8 => k29 σ x2 y8)
def fMelting_passDay_29_b (k29 : Sg → Int32 → Int32 → Option (Int32 × Sg)) (σ : Sg) (b : Nat) (x2 : Int32) (x3 : Int32) : Option (Int32 × Sg) :=
  if (σ b 15 0) ≤ x3 then lt (upA σ b 0 (upd (σ b 0) 3 ((σ b 0 3) + x2))) (fun σ3 => lt (upA σ3 b 0 (upd (σ3 b 0) 0 ((σ3 b 0 0) + 1))) (fun σ4 => some (x2, σ4))) else bp (fBlocks_isInRoom σ b x3) (fun y5 => (if y5 = 0 then fMelting_passDay_66 k29 σ b x2 x3 else bp (fMelting_lose σ b x3) (fun σ6 => gd (ib x3 300) (lt (x2 + (σ6 6 12 x3.toNatClampNeg)) (fun y7 => fMelting_passDay_66 k29 σ6 b y7 x3)))))
def fMelting_passDay_29 (n : Nat) (σ : Sg) (b : Nat) (x2 : Int32) (x3 : Int32) : Option (Int32 × Sg) := match n with
  | 0 => none
  | n + 1 => fMelting_passDay_29_b  (fun σ x2 x3 => fMelting_passDay_29  n σ b x2 x3) σ b x2 x3
def fMelting_passDay_2_b (k2 : Sg → Int32 → Option (Int32 × Sg)) (σ : Sg) (b : Nat) (x2 : Int32) : Option (Int32 × Sg) :=
  if (σ b 15 0) ≤ x2 then fMelting_passDay_29 FU σ b 0 0 else bp (fMelting_spoil σ b x2) (fun σ1 => lt (x2 + 1) (fun y2 => k2 σ1 y2))
def fMelting_passDay_2 (n : Nat) (σ : Sg) (b : Nat) (x2 : Int32) : Option (Int32 × Sg) := match n with
  | 0 => none
  | n + 1 => fMelting_passDay_2_b  (fun σ x2 => fMelting_passDay_2  n σ b x2) σ b x2
def fMelting_passDay_0 (σ : Sg) (b : Nat) : Option (Int32 × Sg) :=
  fMelting_passDay_2 FU σ b 0
def fMelting_passDay (σ : Sg) (b : Nat) : Option (Int32 × Sg) := fMelting_passDay_0 σ b 
def fRooms_above_0 (σ : Sg) (a : Nat) (v1 : Int32) (v2 : Int32) : Option (Int32) :=
  gd (ib v1 8) (bp (fRooms_at σ a v1 (v2 + (σ a 7 v1.toNatClampNeg))) (fun y1 => some y1))
def fRooms_above (σ : Sg) (a : Nat) (v1 : Int32) (v2 : Int32) : Option (Int32) := fRooms_above_0 σ a v1 v2
def fRooms_isFreeBlock_0 (σ : Sg) (a : Nat) (v1 : Int32) (v2 : Int32) : Option (Int32) :=
  bp (fRooms_at σ a v1 v2) (fun y1 => (if y1 < 10 then some 0 else bp (fRooms_above σ a v1 v2) (fun y2 => (if 10 ≤ y2 then some 0 else some 1))))
def fRooms_isFreeBlock (σ : Sg) (a : Nat) (v1 : Int32) (v2 : Int32) : Option (Int32) := fRooms_isFreeBlock_0 σ a v1 v2
def fMelting_nearest_143 (k53 : Sg → Int32 → Int32 → Int32 → Int32 → Int32 → Int32 → Int32 → Int32 → Option (Int32 × Sg)) (σ : Sg) (b : Nat) (x2 : Int32) (x4 : Int32) (x5 : Int32) (x6 : Int32) (x7 : Int32) (x8 : Int32) (x9 : Int32) (x10 : Int32) : Option (Int32 × Sg) :=
  lt (x10 + 1) (fun y10 => k53 σ x2 x4 x5 x6 x7 x8 x9 y10)
def fMelting_nearest_131 (k53 : Sg → Int32 → Int32 → Int32 → Int32 → Int32 → Int32 → Int32 → Int32 → Option (Int32 × Sg)) (σ : Sg) (b : Nat) (x2 : Int32) (x4 : Int32) (x8 : Int32) (x9 : Int32) (x10 : Int32) (x11 : Int32) (x12 : Int32) : Option (Int32 × Sg) :=
  fMelting_nearest_143 k53 σ b x2 x4 x11 x12 x9 x8 x9 x10
def fMelting_nearest_53_b (k32 : Sg → Int32 → Int32 → Int32 → Int32 → Int32 → Int32 → Int32 → Option (Int32 × Sg)) (k53 : Sg → Int32 → Int32 → Int32 → Int32 → Int32 → Int32 → Int32 → Int32 → Option (Int32 × Sg)) (σ : Sg) (b : Nat) (x2 : Int32) (x4 : Int32) (x5 : Int32) (x6 : Int32) (x7 : Int32) (x8 : Int32) (x9 : Int32) (x10 : Int32) : Option (Int32 × Sg) :=
  if ((x9 + 1) * x8) ≤ x10 then lt (x9 + 1) (fun y4 => k32 σ x2 x4 x5 x6 x7 x8 y4) else bp (fRooms_isFreeBlock σ b x2 x10) (fun y5 => (if y5 = 0 then fMelting_nearest_143 k53 σ b x2 x4 x5 x6 x7 x8 x9 x10 else bp (fRooms_at σ b x2 x10) (fun y6 => lt (y6 - 10) (fun y7 => bi (fMelting_lossOf σ b y7 x4) (fun y8 σ9 => (if x5 = ((-1)) then fMelting_nearest_131 k53 σ9 b x2 x4 x8 x9 x10 y7 y8 else if x6 < y8 then fMelting_nearest_131 k53 σ9 b x2 x4 x8 x9 x10 y7 y8 else if y8 = x6 then if x9 ≤ x7 then fMelting_nearest_143 k53 σ9 b x2 x4 x5 x6 x7 x8 x9 x10 else fMelting_nearest_131 k53 σ9 b x2 x4 x8 x9 x10 y7 y8 else fMelting_nearest_143 k53 σ9 b x2 x4 x5 x6 x7 x8 x9 x10))))))
def fMelting_nearest_53 (k32 : Sg → Int32 → Int32 → Int32 → Int32 → Int32 → Int32 → Int32 → Option (Int32 × Sg)) (n : Nat) (σ : Sg) (b : Nat) (x2 : Int32) (x4 : Int32) (x5 : Int32) (x6 : Int32) (x7 : Int32) (x8 : Int32) (x9 : Int32) (x10 : Int32) : Option (Int32 × Sg) := match n with
  | 0 => none
  | n + 1 => fMelting_nearest_53_b k32 (fun σ x2 x4 x5 x6 x7 x8 x9 x10 => fMelting_nearest_53 k32 n σ b x2 x4 x5 x6 x7 x8 x9 x10) σ b x2 x4 x5 x6 x7 x8 x9 x10
def fMelting_nearest_32_b (k32 : Sg → Int32 → Int32 → Int32 → Int32 → Int32 → Int32 → Int32 → Option (Int32 × Sg)) (σ : Sg) (b : Nat) (x2 : Int32) (x4 : Int32) (x5 : Int32) (x6 : Int32) (x7 : Int32) (x8 : Int32) (x9 : Int32) : Option (Int32 × Sg) :=
  gd (ib x2 8) ((if (σ b 5 x2.toNatClampNeg) ≤ x9 then some (x5, σ) else lt (x9 * x8) (fun y3 => fMelting_nearest_53 k32 FU σ b x2 x4 x5 x6 x7 x8 x9 y3)))
def fMelting_nearest_32 (n : Nat) (σ : Sg) (b : Nat) (x2 : Int32) (x4 : Int32) (x5 : Int32) (x6 : Int32) (x7 : Int32) (x8 : Int32) (x9 : Int32) : Option (Int32 × Sg) := match n with
  | 0 => none
  | n + 1 => fMelting_nearest_32_b  (fun σ x2 x4 x5 x6 x7 x8 x9 => fMelting_nearest_32  n σ b x2 x4 x5 x6 x7 x8 x9) σ b x2 x4 x5 x6 x7 x8 x9
def fMelting_nearest_0 (σ : Sg) (b : Nat) (v2 : Int32) (v3 : Int32) : Option (Int32 × Sg) :=
  bp (fMelting_warmthIn σ b v2 v3) (fun y1 => gd (ib v2 8) (lt (σ b 7 v2.toNatClampNeg) (fun y2 => fMelting_nearest_32 FU σ b v2 y1 ((-1)) 0 0 y2 0)))
def fMelting_nearest (σ : Sg) (b : Nat) (v2 : Int32) (v3 : Int32) : Option (Int32 × Sg) := fMelting_nearest_0 σ b v2 v3
def fMelting_airSidesIn_59 (k16 : Sg → Int32 → Int32 → Int32 → Int32 → Option (Int32 × Sg)) (σ : Sg) (b : Nat) (x2 : Int32) (x3 : Int32) (x4 : Int32) (x5 : Int32) : Option (Int32 × Sg) :=
  lt (x5 + 1) (fun y5 => k16 σ x2 x3 x4 y5)
def fMelting_airSidesIn_16_b (k16 : Sg → Int32 → Int32 → Int32 → Int32 → Option (Int32 × Sg)) (σ : Sg) (b : Nat) (x2 : Int32) (x3 : Int32) (x4 : Int32) (x5 : Int32) : Option (Int32 × Sg) :=
  if x4 ≤ x5 then some (x3, σ) else bp (fRooms_at σ b x2 x5) (fun y2 => (if y2 < 10 then fMelting_airSidesIn_59 k16 σ b x2 x3 x4 x5 else bp (fSides_look σ b x2 x5) (fun σ3 => lt (x3 + (σ3 6 11 0)) (fun y4 => fMelting_airSidesIn_59 k16 σ3 b x2 y4 x4 x5))))
def fMelting_airSidesIn_16 (n : Nat) (σ : Sg) (b : Nat) (x2 : Int32) (x3 : Int32) (x4 : Int32) (x5 : Int32) : Option (Int32 × Sg) := match n with
  | 0 => none
  | n + 1 => fMelting_airSidesIn_16_b  (fun σ x2 x3 x4 x5 => fMelting_airSidesIn_16  n σ b x2 x3 x4 x5) σ b x2 x3 x4 x5
def fMelting_airSidesIn_0 (σ : Sg) (b : Nat) (v2 : Int32) : Option (Int32 × Sg) :=
  gd (ib v2 8) (lt (σ b 8 v2.toNatClampNeg) (fun y1 => fMelting_airSidesIn_16 FU σ b v2 0 y1 0))
def fMelting_airSidesIn (σ : Sg) (b : Nat) (v2 : Int32) : Option (Int32 × Sg) := fMelting_airSidesIn_0 σ b v2
def fPacker_isChosen_0 (σ : Sg) (v1 : Int32) : Option (Int32) :=
  bp (fI_within σ v1 0 179) (fun y1 => (if y1 = 0 then some 0 else gd (ib v1 180) ((if (σ 10 2 v1.toNatClampNeg) = 0 then some 0 else some 1))))
def fPacker_isChosen (σ : Sg) (v1 : Int32) : Option (Int32) := fPacker_isChosen_0 σ  v1
def fPacker_bears_25 (σ : Sg) : Option (Int32) :=
  some 1
def fPacker_bears_0 (σ : Sg) (v1 : Int32) : Option (Int32) :=
  lt (v1 - ((σ 10 0 0) * (σ 10 0 1))) (fun y1 => (if y1 < 0 then fPacker_bears_25 σ else gd (ib y1 180) ((if (σ 10 1 y1.toNatClampNeg) = 0 then some 0 else fPacker_bears_25 σ))))
def fPacker_bears (σ : Sg) (v1 : Int32) : Option (Int32) := fPacker_bears_0 σ  v1
def fPacker_sidesShut_57 (k4 : Int32 → Int32 → Int32 → Option (Int32)) (σ : Sg) (x1 : Int32) (x2 : Int32) (x3 : Int32) : Option (Int32) :=
  lt (x3 + 1) (fun y4 => k4 x1 x2 y4)
def fPacker_sidesShut_4_b (k4 : Int32 → Int32 → Int32 → Option (Int32)) (σ : Sg) (x1 : Int32) (x2 : Int32) (x3 : Int32) : Option (Int32) :=
  if 6 ≤ x3 then some x2 else bp (fI_beside σ x3 x1 (σ 10 0 0) (σ 10 0 1) (σ 10 0 2)) (fun y1 => bp (fI_within σ y1 0 ((σ 10 0 3) - 1)) (fun y2 => (if y2 = 0 then fPacker_sidesShut_57 k4 σ x1 x2 x3 else gd (ib y1 180) ((if (σ 10 1 y1.toNatClampNeg) = 0 then fPacker_sidesShut_57 k4 σ x1 x2 x3 else lt (x2 + 1) (fun y3 => fPacker_sidesShut_57 k4 σ x1 y3 x3))))))
def fPacker_sidesShut_4 (n : Nat) (σ : Sg) (x1 : Int32) (x2 : Int32) (x3 : Int32) : Option (Int32) := match n with
  | 0 => none
  | n + 1 => fPacker_sidesShut_4_b  (fun x1 x2 x3 => fPacker_sidesShut_4  n σ  x1 x2 x3) σ  x1 x2 x3
def fPacker_sidesShut_0 (σ : Sg) (v1 : Int32) : Option (Int32) :=
  fPacker_sidesShut_4 FU σ v1 0 0
def fPacker_sidesShut (σ : Sg) (v1 : Int32) : Option (Int32) := fPacker_sidesShut_0 σ  v1
def fPacker_chooseOneByOne_65 (k15 : Sg → Int32 → Int32 → Int32 → Int32 → Int32 → Option (Sg)) (σ : Sg) (x1 : Int32) (x2 : Int32) (x3 : Int32) (x4 : Int32) (x5 : Int32) : Option (Sg) :=
  lt (x5 + 1) (fun y5 => k15 σ x1 x2 x3 x4 y5)
def fPacker_chooseOneByOne_83 (k2 : Sg → Int32 → Int32 → Option (Sg)) (σ : Sg) (x1 : Int32) (x2 : Int32) : Option (Sg) :=
  lt (x2 + 1) (fun y6 => k2 σ x1 y6)
def fPacker_chooseOneByOne_15_b (k2 : Sg → Int32 → Int32 → Option (Sg)) (k15 : Sg → Int32 → Int32 → Int32 → Int32 → Int32 → Option (Sg)) (σ : Sg) (x1 : Int32) (x2 : Int32) (x3 : Int32) (x4 : Int32) (x5 : Int32) : Option (Sg) :=
  if (σ 10 0 3) ≤ x5 then if x3 = ((-1)) then fPacker_chooseOneByOne_83 k2 σ x1 x2 else gd (ib x3 180) (lt (upA σ 10 1 (upd (σ 10 1) x3.toNatClampNeg (vp_nar .boolean 1))) (fun σ1 => fPacker_chooseOneByOne_83 k2 σ1 x1 x2)) else gd (ib x5 180) ((if (σ 10 1 x5.toNatClampNeg) = 0 then bp (fPacker_bears σ x5) (fun y2 => (if y2 = 0 then fPacker_chooseOneByOne_65 k15 σ x1 x2 x3 x4 x5 else bp (fPacker_sidesShut σ x5) (fun y3 => (if y3 ≤ x4 then fPacker_chooseOneByOne_65 k15 σ x1 x2 x3 x4 x5 else bp (fPacker_sidesShut σ x5) (fun y4 => fPacker_chooseOneByOne_65 k15 σ x1 x2 x5 y4 x5))))) else fPacker_chooseOneByOne_65 k15 σ x1 x2 x3 x4 x5))
def fPacker_chooseOneByOne_15 (k2 : Sg → Int32 → Int32 → Option (Sg)) (n : Nat) (σ : Sg) (x1 : Int32) (x2 : Int32) (x3 : Int32) (x4 : Int32) (x5 : Int32) : Option (Sg) := match n with
  | 0 => none
  | n + 1 => fPacker_chooseOneByOne_15_b k2 (fun σ x1 x2 x3 x4 x5 => fPacker_chooseOneByOne_15 k2 n σ  x1 x2 x3 x4 x5) σ  x1 x2 x3 x4 x5
def fPacker_chooseOneByOne_2_b (k2 : Sg → Int32 → Int32 → Option (Sg)) (σ : Sg) (x1 : Int32) (x2 : Int32) : Option (Sg) :=
  if x1 ≤ x2 then some σ else fPacker_chooseOneByOne_15 k2 FU σ x1 x2 ((-1)) ((-1)) 0
def fPacker_chooseOneByOne_2 (n : Nat) (σ : Sg) (x1 : Int32) (x2 : Int32) : Option (Sg) := match n with
  | 0 => none
  | n + 1 => fPacker_chooseOneByOne_2_b  (fun σ x1 x2 => fPacker_chooseOneByOne_2  n σ  x1 x2) σ  x1 x2
def fPacker_chooseOneByOne_0 (σ : Sg) (v1 : Int32) : Option (Sg) :=
  fPacker_chooseOneByOne_2 FU σ v1 0
def fPacker_chooseOneByOne (σ : Sg) (v1 : Int32) : Option (Sg) := fPacker_chooseOneByOne_0 σ  v1
def fPacker_keepChosen_2_b (k2 : Sg → Int32 → Option (Sg)) (σ : Sg) (x1 : Int32) : Option (Sg) :=
  if (σ 10 0 3) ≤ x1 then some σ else gd (ib x1 180) (gd (ib x1 180) (lt (upA σ 10 2 (upd (σ 10 2) x1.toNatClampNeg (vp_nar .boolean (σ 10 1 x1.toNatClampNeg)))) (fun σ1 => lt (x1 + 1) (fun y2 => k2 σ1 y2))))
def fPacker_keepChosen_2 (n : Nat) (σ : Sg) (x1 : Int32) : Option (Sg) := match n with
  | 0 => none
  | n + 1 => fPacker_keepChosen_2_b  (fun σ x1 => fPacker_keepChosen_2  n σ  x1) σ  x1
def fPacker_keepChosen_0 (σ : Sg) : Option (Sg) :=
  fPacker_keepChosen_2 FU σ 0
def fPacker_keepChosen (σ : Sg) : Option (Sg) := fPacker_keepChosen_0 σ  
def fPacker_tryFrom_91 (slf : Sg → Int32 → Int32 → Int32 → Option (Sg)) (k36 : Sg → Int32 → Int32 → Int32 → Option (Sg)) (σ : Sg) (x2 : Int32) (x3 : Int32) (x4 : Int32) : Option (Sg) :=
  lt (x4 + 1) (fun y8 => k36 σ x2 x3 y8)
def fPacker_tryFrom_36_b (slf : Sg → Int32 → Int32 → Int32 → Option (Sg)) (k36 : Sg → Int32 → Int32 → Int32 → Option (Sg)) (σ : Sg) (x2 : Int32) (x3 : Int32) (x4 : Int32) : Option (Sg) :=
  if ((σ 10 0 3) - x2) < x4 then some σ else bp (fPacker_bears σ x4) (fun y3 => (if y3 = 0 then fPacker_tryFrom_91 slf k36 σ x2 x3 x4 else gd (ib x4 180) (lt (upA σ 10 1 (upd (σ 10 1) x4.toNatClampNeg (vp_nar .boolean 1))) (fun σ4 => bp (fPacker_sidesShut σ4 x4) (fun y5 => bp (slf σ4 (x4 + 1) (x2 - 1) (x3 + y5)) (fun σ6 => gd (ib x4 180) (lt (upA σ6 10 1 (upd (σ6 10 1) x4.toNatClampNeg (vp_nar .boolean 0))) (fun σ7 => fPacker_tryFrom_91 slf k36 σ7 x2 x3 x4))))))))
def fPacker_tryFrom_36 (slf : Sg → Int32 → Int32 → Int32 → Option (Sg)) (n : Nat) (σ : Sg) (x2 : Int32) (x3 : Int32) (x4 : Int32) : Option (Sg) := match n with
  | 0 => none
  | n + 1 => fPacker_tryFrom_36_b slf (fun σ x2 x3 x4 => fPacker_tryFrom_36 slf n σ  x2 x3 x4) σ  x2 x3 x4
def fPacker_tryFrom_0 (slf : Sg → Int32 → Int32 → Int32 → Option (Sg)) (σ : Sg) (v1 : Int32) (v2 : Int32) (v3 : Int32) : Option (Sg) :=
  if 8 < v2 then some σ else if (σ 10 0 4) < (v3 + (3 * v2)) then if 0 < v2 then fPacker_tryFrom_36 slf FU σ v2 v3 v1 else lt (upA σ 10 0 (upd (σ 10 0) 4 v3)) (fun σ1 => bp (fPacker_keepChosen σ1) (fun σ2 => some σ2)) else some σ
def fPacker_tryFrom (n : Nat) (σ : Sg) (v1 : Int32) (v2 : Int32) (v3 : Int32) : Option (Sg) := match n with
  | 0 => none
  | n + 1 => fPacker_tryFrom_0 (fun σ v1 v2 v3 => fPacker_tryFrom n σ v1 v2 v3) σ v1 v2 v3
def fPacker_choose_117 (σ : Sg) (b : Nat) (x3 : Int32) : Option (Sg) :=
  bp (fPacker_chooseOneByOne σ x3) (fun σ9 => bp (fPacker_keepChosen σ9) (fun σ10 => some σ10))
def fPacker_choose_49_b (k49 : Sg → Int32 → Int32 → Option (Sg)) (σ : Sg) (b : Nat) (x3 : Int32) (x4 : Int32) : Option (Sg) :=
  if (σ 10 0 3) ≤ x4 then if 8 < x3 then fPacker_choose_117 σ b x3 else if 3 < (σ 10 0 0) then fPacker_choose_117 σ b x3 else if 3 < (σ 10 0 1) then fPacker_choose_117 σ b x3 else if 2 < (σ 10 0 2) then fPacker_choose_117 σ b x3 else lt (upA σ 10 0 (upd (σ 10 0) 4 ((-1)))) (fun σ5 => bp (fPacker_tryFrom 20 σ5 0 x3 0) (fun σ6 => some σ6)) else gd (ib x4 180) (lt (upA σ 10 1 (upd (σ 10 1) x4.toNatClampNeg (vp_nar .boolean 0))) (fun σ7 => lt (x4 + 1) (fun y8 => k49 σ7 x3 y8)))
def fPacker_choose_49 (n : Nat) (σ : Sg) (b : Nat) (x3 : Int32) (x4 : Int32) : Option (Sg) := match n with
  | 0 => none
  | n + 1 => fPacker_choose_49_b  (fun σ x3 x4 => fPacker_choose_49  n σ b x3 x4) σ b x3 x4
def fPacker_choose_0 (σ : Sg) (b : Nat) (v2 : Int32) (v3 : Int32) : Option (Sg) :=
  gd (ib v2 8) (lt (upA σ 10 0 (upd (σ 10 0) 0 (σ b 3 v2.toNatClampNeg))) (fun σ1 => gd (ib v2 8) (lt (upA σ1 10 0 (upd (σ1 10 0) 1 (σ1 b 4 v2.toNatClampNeg))) (fun σ2 => gd (ib v2 8) (lt (upA σ2 10 0 (upd (σ2 10 0) 2 (σ2 b 5 v2.toNatClampNeg))) (fun σ3 => gd (ib v2 8) (lt (upA σ3 10 0 (upd (σ3 10 0) 3 (if 180 < (σ3 b 8 v2.toNatClampNeg) then 180 else (σ3 b 8 v2.toNatClampNeg)))) (fun σ4 => fPacker_choose_49 FU σ4 b v3 0))))))))
def fPacker_choose (σ : Sg) (b : Nat) (v2 : Int32) (v3 : Int32) : Option (Sg) := fPacker_choose_0 σ b v2 v3
def fRooms_copy_0 (σ : Sg) (a : Nat) (as0 : Nat) (ak0 : Nat) (an0 : Nat) (as1 : Nat) (ak1 : Nat) (an1 : Nat) : Option (Sg) :=
  gd (acg 0 0 (σ a 1 0) an0 an1) (lt (upA σ as1 ak1 (va_cpy (σ as0 ak0) (σ as1 ak1) (0 : Int32).toNatClampNeg (0 : Int32).toNatClampNeg (σ a 1 0).toNatClampNeg)) (fun σ1 => some σ1))
def fRooms_copy (σ : Sg) (a : Nat) (as0 : Nat) (ak0 : Nat) (an0 : Nat) (as1 : Nat) (ak1 : Nat) (an1 : Nat) : Option (Sg) := fRooms_copy_0 σ a as0 ak0 an0 as1 ak1 an1 
def fRooms_copyFrom_0 (σ : Sg) (a : Nat) (b : Nat) : Option (Sg) :=
  lt (upA σ a 1 (upd (σ a 1) 0 (σ b 1 0))) (fun σ1 => bp (fRooms_copy σ1 a b 2 8 a 2 8) (fun σ2 => bp (fRooms_copy σ2 a b 3 8 a 3 8) (fun σ3 => bp (fRooms_copy σ3 a b 4 8 a 4 8) (fun σ4 => bp (fRooms_copy σ4 a b 5 8 a 5 8) (fun σ5 => bp (fRooms_copy σ5 a b 6 8 a 6 8) (fun σ6 => bp (fRooms_copy σ6 a b 7 8 a 7 8) (fun σ7 => bp (fRooms_copy σ7 a b 8 8 a 8 8) (fun σ8 => bp (fRooms_copy σ8 a b 9 8 a 9 8) (fun σ9 => bp (fRooms_copy σ9 a b 10 8 a 10 8) (fun σ10 => bp (fRooms_copy σ10 a b 11 8 a 11 8) (fun σ11 => bp (fRooms_copy σ11 a b 12 8 a 12 8) (fun σ12 => bp (fRooms_copy σ12 a b 13 8 a 13 8) (fun σ13 => gd (acg 0 0 ((σ13 a 1 0) * 180) 1440 1440) (lt (upA σ13 a 14 (va_cpy (σ13 b 14) (σ13 a 14) (0 : Int32).toNatClampNeg (0 : Int32).toNatClampNeg ((σ13 a 1 0) * 180).toNatClampNeg)) (fun σ14 => some σ14)))))))))))))))
def fRooms_copyFrom (σ : Sg) (a : Nat) (b : Nat) : Option (Sg) := fRooms_copyFrom_0 σ a b 
def fRooms_open_128_b (k128 : Sg → Int32 → Int32 → Option (Int32 × Sg)) (σ : Sg) (a : Nat) (x6 : Int32) (x7 : Int32) : Option (Int32 × Sg) :=
  if 180 ≤ x7 then some (x6, σ) else gd (ib ((x6 * 180) + x7) 1440) (lt (upA σ a 14 (upd (σ a 14) ((x6 * 180) + x7).toNatClampNeg 0)) (fun σ15 => lt (x7 + 1) (fun y16 => k128 σ15 x6 y16)))
def fRooms_open_128 (n : Nat) (σ : Sg) (a : Nat) (x6 : Int32) (x7 : Int32) : Option (Int32 × Sg) := match n with
  | 0 => none
  | n + 1 => fRooms_open_128_b  (fun σ x6 x7 => fRooms_open_128  n σ a x6 x7) σ a x6 x7
def fRooms_open_0 (σ : Sg) (a : Nat) (v1 : Int32) (v2 : Int32) (v3 : Int32) (v4 : Int32) (v5 : Int32) : Option (Int32 × Sg) :=
  lt (σ a 1 0) (fun y1 => gd (ib y1 8) (lt (upA σ a 2 (upd (σ a 2) y1.toNatClampNeg v1)) (fun σ2 => gd (ib y1 8) (lt (upA σ2 a 3 (upd (σ2 a 3) y1.toNatClampNeg v2)) (fun σ3 => gd (ib y1 8) (lt (upA σ3 a 4 (upd (σ3 a 4) y1.toNatClampNeg v3)) (fun σ4 => gd (ib y1 8) (lt (upA σ4 a 5 (upd (σ4 a 5) y1.toNatClampNeg v4)) (fun σ5 => gd (ib y1 8) (lt (upA σ5 a 6 (upd (σ5 a 6) y1.toNatClampNeg v5)) (fun σ6 => gd (ib y1 8) (lt (upA σ6 a 7 (upd (σ6 a 7) y1.toNatClampNeg (v2 * v3))) (fun σ7 => gd (ib y1 8) (gd (ib y1 8) (lt (upA σ7 a 8 (upd (σ7 a 8) y1.toNatClampNeg ((σ7 a 7 y1.toNatClampNeg) * v4))) (fun σ8 => gd (ib y1 8) (lt (upA σ8 a 9 (upd (σ8 a 9) y1.toNatClampNeg 0)) (fun σ9 => gd (ib y1 8) (lt (upA σ9 a 10 (upd (σ9 a 10) y1.toNatClampNeg 0)) (fun σ10 => gd (ib y1 8) (lt (upA σ10 a 11 (upd (σ10 a 11) y1.toNatClampNeg 0)) (fun σ11 => gd (ib y1 8) (lt (upA σ11 a 12 (upd (σ11 a 12) y1.toNatClampNeg 0)) (fun σ12 => gd (ib y1 8) (lt (upA σ12 a 13 (upd (σ12 a 13) y1.toNatClampNeg 0)) (fun σ13 => lt (upA σ13 a 1 (upd (σ13 a 1) 0 ((σ13 a 1 0) + 1))) (fun σ14 => fRooms_open_128 FU σ14 a y1 0)))))))))))))))))))))))))))
def fRooms_open (σ : Sg) (a : Nat) (v1 : Int32) (v2 : Int32) (v3 : Int32) (v4 : Int32) (v5 : Int32) : Option (Int32 × Sg) := fRooms_open_0 σ a v1 v2 v3 v4 v5
def fRooms_rowOf_0 (σ : Sg) (a : Nat) (v1 : Int32) (v2 : Int32) : Option (Int32) :=
  gd (ib v1 8) ((if 1 ≤ (σ a 3 v1.toNatClampNeg) then gd (ib v1 8) (gd (nzi (σ a 3 v1.toNatClampNeg)) (some (v2 / (σ a 3 v1.toNatClampNeg)))) else some 0))
def fRooms_rowOf (σ : Sg) (a : Nat) (v1 : Int32) (v2 : Int32) : Option (Int32) := fRooms_rowOf_0 σ a v1 v2
def fRooms_isLaid_0 (σ : Sg) (a : Nat) (v1 : Int32) (v2 : Int32) : Option (Int32) :=
  gd (ib v1 8) (gd (ib v1 8) ((if ((σ a 4 v1.toNatClampNeg) * (σ a 5 v1.toNatClampNeg)) ≤ v2 then some 0 else gd (ib v1 8) ((if ((((σ a 13 v1.toNatClampNeg).toUInt32 >>> (v2.toUInt32 &&& Int32.toUInt32 31)).toInt32) &&& 1) = 0 then some 0 else some 1)))))
def fRooms_isLaid (σ : Sg) (a : Nat) (v1 : Int32) (v2 : Int32) : Option (Int32) := fRooms_isLaid_0 σ a v1 v2
def fRooms_isAllLaid_0 (σ : Sg) (a : Nat) (v1 : Int32) : Option (Int32) :=
  gd (ib v1 8) (gd (ib v1 8) (gd (ib v1 8) ((if (σ a 13 v1.toNatClampNeg) = ((1 <<< (((σ a 4 v1.toNatClampNeg) * (σ a 5 v1.toNatClampNeg)) &&& 31)) - 1) then some 1 else some 0))))
def fRooms_isAllLaid (σ : Sg) (a : Nat) (v1 : Int32) : Option (Int32) := fRooms_isAllLaid_0 σ a v1
def fRooms_bears_34 (σ : Sg) (a : Nat) : Option (Int32) :=
  some 1
def fRooms_bears_0 (σ : Sg) (a : Nat) (v1 : Int32) (v2 : Int32) : Option (Int32) :=
  gd (ib v1 8) (bp (fRooms_at σ a v1 (v2 - (σ a 7 v1.toNatClampNeg))) (fun y1 => bp (fRooms_isOnFloor σ a v1 v2) (fun y2 => (if y2 = 0 then if y1 = 1 then fRooms_bears_34 σ a else if y1 < 10 then some 0 else fRooms_bears_34 σ a else fRooms_bears_34 σ a))))
def fRooms_bears (σ : Sg) (a : Nat) (v1 : Int32) (v2 : Int32) : Option (Int32) := fRooms_bears_0 σ a v1 v2
def fRooms_isRowBare_12_b (k12 : Int32 → Int32 → Int32 → Option (Int32)) (σ : Sg) (a : Nat) (x1 : Int32) (x3 : Int32) (x4 : Int32) : Option (Int32) :=
  gd (ib x1 8) ((if (σ a 3 x1.toNatClampNeg) ≤ x4 then some 1 else bp (fRooms_at σ a x1 (x3 + x4)) (fun y2 => (if y2 = 0 then lt (x4 + 1) (fun y3 => k12 x1 x3 y3) else some 0))))
def fRooms_isRowBare_12 (n : Nat) (σ : Sg) (a : Nat) (x1 : Int32) (x3 : Int32) (x4 : Int32) : Option (Int32) := match n with
  | 0 => none
  | n + 1 => fRooms_isRowBare_12_b  (fun x1 x3 x4 => fRooms_isRowBare_12  n σ a x1 x3 x4) σ a x1 x3 x4
def fRooms_isRowBare_0 (σ : Sg) (a : Nat) (v1 : Int32) (v2 : Int32) : Option (Int32) :=
  gd (ib v1 8) (lt (v2 * (σ a 3 v1.toNatClampNeg)) (fun y1 => fRooms_isRowBare_12 FU σ a v1 y1 0))
def fRooms_isRowBare (σ : Sg) (a : Nat) (v1 : Int32) (v2 : Int32) : Option (Int32) := fRooms_isRowBare_0 σ a v1 v2
def fRooms_isBare_16_b (k16 : Int32 → Int32 → Int32 → Option (Int32)) (σ : Sg) (a : Nat) (x1 : Int32) (x2 : Int32) (x3 : Int32) : Option (Int32) :=
  if x2 ≤ x3 then some 1 else bp (fRooms_isRowBare σ a x1 x3) (fun y2 => (if y2 = 0 then some 0 else lt (x3 + 1) (fun y3 => k16 x1 x2 y3)))
def fRooms_isBare_16 (n : Nat) (σ : Sg) (a : Nat) (x1 : Int32) (x2 : Int32) (x3 : Int32) : Option (Int32) := match n with
  | 0 => none
  | n + 1 => fRooms_isBare_16_b  (fun x1 x2 x3 => fRooms_isBare_16  n σ a x1 x2 x3) σ a x1 x2 x3
def fRooms_isBare_0 (σ : Sg) (a : Nat) (v1 : Int32) : Option (Int32) :=
  gd (ib v1 8) (gd (ib v1 8) (lt ((σ a 4 v1.toNatClampNeg) * (σ a 5 v1.toNatClampNeg)) (fun y1 => fRooms_isBare_16 FU σ a v1 y1 0)))
def fRooms_isBare (σ : Sg) (a : Nat) (v1 : Int32) : Option (Int32) := fRooms_isBare_0 σ a v1
def fRooms_mayHoldStraw_30 (σ : Sg) (a : Nat) : Option (Int32) :=
  some 1
def fRooms_mayHoldStraw_0 (σ : Sg) (a : Nat) (v1 : Int32) : Option (Int32) :=
  gd (ib v1 8) ((if (σ a 2 v1.toNatClampNeg) = 4 then some 0 else gd (ib v1 8) ((if (σ a 2 v1.toNatClampNeg) = 3 then gd (ib v1 8) ((if (σ a 5 v1.toNatClampNeg) ≤ 1 then some 0 else fRooms_mayHoldStraw_30 σ a)) else fRooms_mayHoldStraw_30 σ a))))
def fRooms_mayHoldStraw (σ : Sg) (a : Nat) (v1 : Int32) : Option (Int32) := fRooms_mayHoldStraw_0 σ a v1
def fRooms_freeOnesIn_26 (k4 : Int32 → Int32 → Int32 → Option (Int32)) (σ : Sg) (a : Nat) (x1 : Int32) (x2 : Int32) (x3 : Int32) : Option (Int32) :=
  lt (x3 + 1) (fun y3 => k4 x1 x2 y3)
def fRooms_freeOnesIn_4_b (k4 : Int32 → Int32 → Int32 → Option (Int32)) (σ : Sg) (a : Nat) (x1 : Int32) (x2 : Int32) (x3 : Int32) : Option (Int32) :=
  gd (ib x1 8) ((if (σ a 8 x1.toNatClampNeg) ≤ x3 then some x2 else bp (fRooms_isFreeBlock σ a x1 x3) (fun y1 => (if y1 = 0 then fRooms_freeOnesIn_26 k4 σ a x1 x2 x3 else lt (x2 + 1) (fun y2 => fRooms_freeOnesIn_26 k4 σ a x1 y2 x3)))))
def fRooms_freeOnesIn_4 (n : Nat) (σ : Sg) (a : Nat) (x1 : Int32) (x2 : Int32) (x3 : Int32) : Option (Int32) := match n with
  | 0 => none
  | n + 1 => fRooms_freeOnesIn_4_b  (fun x1 x2 x3 => fRooms_freeOnesIn_4  n σ a x1 x2 x3) σ a x1 x2 x3
def fRooms_freeOnesIn_0 (σ : Sg) (a : Nat) (v1 : Int32) : Option (Int32) :=
  fRooms_freeOnesIn_4 FU σ a v1 0 0
def fRooms_freeOnesIn (σ : Sg) (a : Nat) (v1 : Int32) : Option (Int32) := fRooms_freeOnesIn_0 σ a v1
def fRooms_ledInAll_4_b (k4 : Int32 → Int32 → Option (Int32)) (σ : Sg) (a : Nat) (x1 : Int32) (x2 : Int32) : Option (Int32) :=
  if (σ a 1 0) ≤ x2 then some x1 else gd (ib x2 8) (lt (x1 + (σ a 9 x2.toNatClampNeg)) (fun y1 => lt (x2 + 1) (fun y2 => k4 y1 y2)))
def fRooms_ledInAll_4 (n : Nat) (σ : Sg) (a : Nat) (x1 : Int32) (x2 : Int32) : Option (Int32) := match n with
  | 0 => none
  | n + 1 => fRooms_ledInAll_4_b  (fun x1 x2 => fRooms_ledInAll_4  n σ a x1 x2) σ a x1 x2
def fRooms_ledInAll_0 (σ : Sg) (a : Nat) : Option (Int32) :=
  fRooms_ledInAll_4 FU σ a 0 0
def fRooms_ledInAll (σ : Sg) (a : Nat) : Option (Int32) := fRooms_ledInAll_0 σ a 
def fRooms_standingInAll_4_b (k4 : Int32 → Int32 → Option (Int32)) (σ : Sg) (a : Nat) (x1 : Int32) (x2 : Int32) : Option (Int32) :=
  if (σ a 1 0) ≤ x2 then some x1 else gd (ib x2 8) (lt (x1 + (σ a 10 x2.toNatClampNeg)) (fun y1 => lt (x2 + 1) (fun y2 => k4 y1 y2)))
def fRooms_standingInAll_4 (n : Nat) (σ : Sg) (a : Nat) (x1 : Int32) (x2 : Int32) : Option (Int32) := match n with
  | 0 => none
  | n + 1 => fRooms_standingInAll_4_b  (fun x1 x2 => fRooms_standingInAll_4  n σ a x1 x2) σ a x1 x2
def fRooms_standingInAll_0 (σ : Sg) (a : Nat) : Option (Int32) :=
  fRooms_standingInAll_4 FU σ a 0 0
def fRooms_standingInAll (σ : Sg) (a : Nat) : Option (Int32) := fRooms_standingInAll_0 σ a 
def fStore_copyFrom_0 (σ : Sg) (a : Nat) (b : Nat) : Option (Sg) :=
  lt (upA σ a 0 (upd (σ a 0) 0 (σ b 0 0))) (fun σ1 => lt (upA σ1 a 0 (upd (σ1 a 0) 1 (σ1 b 0 1))) (fun σ2 => lt (upA σ2 a 0 (upd (σ2 a 0) 2 (σ2 b 0 2))) (fun σ3 => lt (upA σ3 a 0 (upd (σ3 a 0) 3 (σ3 b 0 3))) (fun σ4 => lt (upA σ4 a 0 (upd (σ4 a 0) 4 (σ4 b 0 4))) (fun σ5 => bp (fRooms_copyFrom σ5 a b) (fun σ6 => bp (fBlocks_copyFrom σ6 a b) (fun σ7 => some σ7)))))))
def fStore_copyFrom (σ : Sg) (a : Nat) (b : Nat) : Option (Sg) := fStore_copyFrom_0 σ a b 
def fStore_layDown_57 (σ : Sg) (a : Nat) (t0 : Int32) (t1 : Int32) (t2 : Int32) : Option (Sg) :=
  gd (ib t2 8) (lt (upA σ a 11 (upd (σ a 11) t2.toNatClampNeg (t1 + t0))) (fun σ4 => some σ4))
def fStore_layDown_0 (σ : Sg) (a : Nat) (v1 : Int32) : Option (Sg) :=
  gd (ib v1 300) (lt (σ a 18 v1.toNatClampNeg) (fun y1 => gd (ib v1 300) (bp (fRooms_fill σ a y1 (σ a 19 v1.toNatClampNeg) (10 + v1)) (fun σ2 => gd (ib y1 8) (bp (fBlocks_isSalt σ2 a v1) (fun y3 => (if y3 = 0 then fStore_layDown_57 σ2 a 0 (σ2 a 11 y1.toNatClampNeg) y1 else fStore_layDown_57 σ2 a 1 (σ2 a 11 y1.toNatClampNeg) y1)))))))
def fStore_layDown (σ : Sg) (a : Nat) (v1 : Int32) : Option (Sg) := fStore_layDown_0 σ a v1
def fStore_cutBlock_0 (σ : Sg) (a : Nat) (v1 : Int32) (v2 : Int32) (v3 : Int32) (v4 : Int32) : Option (Int32 × Sg) :=
  lt (σ a 15 0) (fun y1 => (if y1 < 300 then gd (ib y1 300) (lt (upA σ a 16 (upd (σ a 16) y1.toNatClampNeg v3)) (fun σ2 => gd (ib y1 300) (lt (upA σ2 a 17 (upd (σ2 a 17) y1.toNatClampNeg v4)) (fun σ3 => gd (ib y1 300) (lt (upA σ3 a 18 (upd (σ3 a 18) y1.toNatClampNeg v1)) (fun σ4 => gd (ib y1 300) (lt (upA σ4 a 19 (upd (σ4 a 19) y1.toNatClampNeg v2)) (fun σ5 => gd (ib y1 300) (lt (upA σ5 a 20 (upd (σ5 a 20) y1.toNatClampNeg (σ5 a 0 0))) (fun σ6 => gd (ib y1 300) (lt (upA σ6 a 21 (upd (σ6 a 21) y1.toNatClampNeg ((-1)))) (fun σ7 => lt (upA σ7 a 15 (upd (σ7 a 15) 0 ((σ7 a 15 0) + 1))) (fun σ8 => bp (fStore_layDown σ8 a y1) (fun σ9 => lt (upA σ9 a 0 (upd (σ9 a 0) 1 ((σ9 a 0 1) + v4))) (fun σ10 => some (y1, σ10)))))))))))))))) else some ((-6), σ)))
def fStore_cutBlock (σ : Sg) (a : Nat) (v1 : Int32) (v2 : Int32) (v3 : Int32) (v4 : Int32) : Option (Int32 × Sg) := fStore_cutBlock_0 σ a v1 v2 v3 v4
def fStore_gramsInRooms_4_b (k4 : Int32 → Int32 → Option (Int32)) (σ : Sg) (a : Nat) (x1 : Int32) (x2 : Int32) : Option (Int32) :=
  if (σ a 1 0) ≤ x2 then some x1 else bp (fStore_gramsIn σ a x2) (fun y1 => lt (x1 + y1) (fun y2 => lt (x2 + 1) (fun y3 => k4 y2 y3)))
def fStore_gramsInRooms_4 (n : Nat) (σ : Sg) (a : Nat) (x1 : Int32) (x2 : Int32) : Option (Int32) := match n with
  | 0 => none
  | n + 1 => fStore_gramsInRooms_4_b  (fun x1 x2 => fStore_gramsInRooms_4  n σ a x1 x2) σ a x1 x2
def fStore_gramsInRooms_0 (σ : Sg) (a : Nat) : Option (Int32) :=
  fStore_gramsInRooms_4 FU σ a 0 0
def fStore_gramsInRooms (σ : Sg) (a : Nat) : Option (Int32) := fStore_gramsInRooms_0 σ a 
def fI_answer_10 (σ : Sg) (x1 : Int32) (t0 : Int32) : Option (Int32 × Sg) :=
  lt (upA σ 6 0 (upd (σ 6 0) 14 t0)) (fun σ1 => some (x1, σ1))
def fI_answer_0 (σ : Sg) (v1 : Int32) : Option (Int32 × Sg) :=
  if 0 ≤ v1 then fI_answer_10 σ v1 0 else fI_answer_10 σ v1 v1
def fI_answer (σ : Sg) (v1 : Int32) : Option (Int32 × Sg) := fI_answer_0 σ  v1
def fI_room_77 (σ : Sg) : Option (Int32 × Sg) :=
  bi (fI_answer σ ((-1))) (fun y12 σ13 => some (y12, σ13))
def fI_room_31 (σ : Sg) (x1 : Int32) (x2 : Int32) (x3 : Int32) (x4 : Int32) (x5 : Int32) (t0 : Int32) : Option (Int32 × Sg) :=
  bp (fI_within σ x1 0 5) (fun y2 => (if y2 = 0 then fI_room_77 σ else bp (fI_within σ x2 1 6) (fun y3 => (if y3 = 0 then fI_room_77 σ else bp (fI_within σ x3 1 6) (fun y4 => (if y4 = 0 then fI_room_77 σ else bp (fI_within σ x4 1 5) (fun y5 => (if y5 = 0 then fI_room_77 σ else if t0 = 0 then fI_room_77 σ else if (σ 0 1 0) < 8 then bi (fRooms_open σ 0 x1 x2 x3 x4 x5) (fun y6 σ7 => bi (fI_answer σ7 y6) (fun y8 σ9 => some (y8, σ9))) else bi (fI_answer σ ((-6))) (fun y10 σ11 => some (y10, σ11))))))))))
def fI_room_0 (σ : Sg) (v1 : Int32) (v2 : Int32) (v3 : Int32) (v4 : Int32) (v5 : Int32) : Option (Int32 × Sg) :=
  if v1 = 2 then bp (fRooms_has σ 0 v5) (fun y1 => fI_room_31 σ v1 v2 v3 v4 v5 y1) else if v5 = ((-1)) then fI_room_31 σ v1 v2 v3 v4 v5 1 else fI_room_31 σ v1 v2 v3 v4 v5 0
def fI_room (σ : Sg) (v1 : Int32) (v2 : Int32) (v3 : Int32) (v4 : Int32) (v5 : Int32) : Option (Int32 × Sg) := fI_room_0 σ  v1 v2 v3 v4 v5
def fI_tenthsToday_0 (σ : Sg) : Option (Int32) :=
  bp (fCalendar_tenthsOf σ (σ 0 0 0)) (fun y1 => some y1)
def fI_tenthsToday (σ : Sg) : Option (Int32) := fI_tenthsToday_0 σ  
def fI_rooms_0 (σ : Sg) (v1 : Int32) (v2 : Int32) : Option (Int32 × Sg) :=
  bp (fI_within σ v2 0 11) (fun y1 => (if y1 = 0 then some ((-1), σ) else bp (fRooms_has σ 0 v1) (fun y2 => (if y2 = 0 then some ((-2), σ) else if v2 = 0 then gd (ib v1 8) (some (σ 0 2 v1.toNatClampNeg, σ)) else (if v2 = 1 then gd (ib v1 8) (some (σ 0 3 v1.toNatClampNeg, σ)) else (if v2 = 2 then gd (ib v1 8) (some (σ 0 4 v1.toNatClampNeg, σ)) else (if v2 = 3 then gd (ib v1 8) (some (σ 0 5 v1.toNatClampNeg, σ)) else (if v2 = 4 then gd (ib v1 8) (some (σ 0 6 v1.toNatClampNeg, σ)) else (if v2 = 5 then bp (fI_tenthsToday σ) (fun y3 => bp (fMelting_warmthIn σ 0 v1 y3) (fun y4 => some (y4, σ))) else (if v2 = 6 then bp (fStore_blocksIn σ 0 v1) (fun y5 => some (y5, σ)) else (if v2 = 7 then bp (fStore_gramsIn σ 0 v1) (fun y6 => some (y6, σ)) else (if v2 = 8 then gd (ib v1 8) (some (σ 0 9 v1.toNatClampNeg, σ)) else (if v2 = 9 then gd (ib v1 8) (some (σ 0 10 v1.toNatClampNeg, σ)) else (if v2 = 10 then bi (fMelting_airSidesIn σ 0 v1) (fun y7 σ8 => some (y7, σ8)) else (bp (fRooms_freeOnesIn σ 0 v1) (fun y9 => some (y9, σ)))))))))))))))))
def fI_rooms (σ : Sg) (v1 : Int32) (v2 : Int32) : Option (Int32 × Sg) := fI_rooms_0 σ  v1 v2
def fI_refusalOfRow_66 (σ : Sg) (t0 : Int32) : Option (Int32) :=
  if t0 = 0 then some ((-1)) else some 0
def fI_refusalOfRow_65 (σ : Sg) : Option (Int32) :=
  fI_refusalOfRow_66 σ 0
def fI_refusalOfRow_0 (σ : Sg) (v1 : Int32) (v2 : Int32) (v3 : Int32) : Option (Int32) :=
  bp (fRooms_has σ 0 v1) (fun y1 => (if y1 = 0 then some ((-2)) else gd (ib v1 8) (bp (fI_within σ v2 0 ((σ 0 5 v1.toNatClampNeg) - 1)) (fun y2 => (if y2 = 0 then fI_refusalOfRow_65 σ else gd (ib v1 8) (bp (fI_within σ v3 0 ((σ 0 4 v1.toNatClampNeg) - 1)) (fun y3 => (if y3 = 0 then fI_refusalOfRow_65 σ else fI_refusalOfRow_66 σ 1))))))))
def fI_refusalOfRow (σ : Sg) (v1 : Int32) (v2 : Int32) (v3 : Int32) : Option (Int32) := fI_refusalOfRow_0 σ  v1 v2 v3
def fI_lay_82 (σ : Sg) : Option (Int32 × Sg) :=
  bi (fI_answer σ ((-7))) (fun y11 σ12 => some (y11, σ12))
def fI_lay_89 (σ : Sg) (x1 : Int32) (x6 : Int32) : Option (Int32 × Sg) :=
  gd (ib x1 8) (gd (ib x1 8) (lt (upA σ 0 13 (upd (σ 0 13) x1.toNatClampNeg ((σ 0 13 x1.toNatClampNeg) ||| (1 <<< (x6 &&& 31))))) (fun σ8 => bi (fI_answer σ8 0) (fun y9 σ10 => some (y9, σ10)))))
def fI_lay_0 (σ : Sg) (v1 : Int32) (v2 : Int32) (v3 : Int32) : Option (Int32 × Sg) :=
  bp (fI_refusalOfRow σ v1 v2 v3) (fun y1 => (if y1 = 0 then gd (ib v1 8) (lt (σ 0 4 v1.toNatClampNeg) (fun y2 => lt (v3 + (y2 * v2)) (fun y3 => bp (fRooms_isLaid σ 0 v1 y3) (fun y4 => (if y4 = 0 then if v2 ≤ 0 then fI_lay_89 σ v1 y3 else bp (fRooms_isLaid σ 0 v1 (y3 - y2)) (fun y5 => (if y5 = 0 then fI_lay_82 σ else fI_lay_89 σ v1 y3)) else fI_lay_82 σ))))) else bi (fI_answer σ y1) (fun y6 σ7 => some (y6, σ7))))
def fI_lay (σ : Sg) (v1 : Int32) (v2 : Int32) (v3 : Int32) : Option (Int32 × Sg) := fI_lay_0 σ  v1 v2 v3
def fI_tear_101 (σ : Sg) : Option (Int32 × Sg) :=
  bi (fI_answer σ ((-7))) (fun y14 σ15 => some (y14, σ15))
def fI_tear_0 (σ : Sg) (v1 : Int32) (v2 : Int32) (v3 : Int32) : Option (Int32 × Sg) :=
  bp (fI_refusalOfRow σ v1 v2 v3) (fun y1 => (if y1 = 0 then gd (ib v1 8) (lt (σ 0 4 v1.toNatClampNeg) (fun y2 => lt (v3 + (y2 * v2)) (fun y3 => bp (fRooms_isLaid σ 0 v1 y3) (fun y4 => (if y4 = 0 then bi (fI_answer σ ((-3))) (fun y10 σ11 => some (y10, σ11)) else bp (fRooms_isLaid σ 0 v1 (y3 + y2)) (fun y5 => (if y5 = 0 then bp (fRooms_isRowBare σ 0 v1 y3) (fun y6 => (if y6 = 0 then fI_tear_101 σ else gd (ib v1 8) (gd (ib v1 8) (lt (upA σ 0 13 (upd (σ 0 13) v1.toNatClampNeg ((σ 0 13 v1.toNatClampNeg) &&& ((1 <<< (y3 &&& 31)) ^^^ ((-1)))))) (fun σ7 => bi (fI_answer σ7 0) (fun y8 σ9 => some (y8, σ9))))))) else fI_tear_101 σ))))))) else bi (fI_answer σ y1) (fun y12 σ13 => some (y12, σ13))))
def fI_tear (σ : Sg) (v1 : Int32) (v2 : Int32) (v3 : Int32) : Option (Int32 × Sg) := fI_tear_0 σ  v1 v2 v3
def fI_isWeightOfKind_0 (σ : Sg) (v0 : Int32) (v1 : Int32) : Option (Int32) :=
  bp (fI_within σ v0 0 2) (fun y1 => (if y1 = 0 then some 0 else bp (fI_within σ v1 1000 1000000) (fun y2 => (if y2 = 0 then some 0 else some 1))))
def fI_isWeightOfKind (σ : Sg) (v0 : Int32) (v1 : Int32) : Option (Int32) := fI_isWeightOfKind_0 σ  v0 v1
def fI_refusalOfPlace_0 (σ : Sg) (v1 : Int32) (v2 : Int32) : Option (Int32) :=
  bp (fRooms_has σ 0 v1) (fun y1 => (if y1 = 0 then some ((-2)) else bp (fRooms_hasPlace σ 0 v1 v2) (fun y2 => (if y2 = 0 then some ((-1)) else bp (fRooms_rowOf σ 0 v1 v2) (fun y3 => bp (fRooms_isLaid σ 0 v1 y3) (fun y4 => (if y4 = 0 then some ((-3)) else some 0)))))))
def fI_refusalOfPlace (σ : Sg) (v1 : Int32) (v2 : Int32) : Option (Int32) := fI_refusalOfPlace_0 σ  v1 v2
def fI_refusalToFill_0 (σ : Sg) (v1 : Int32) (v2 : Int32) : Option (Int32) :=
  bp (fI_refusalOfPlace σ v1 v2) (fun y1 => (if y1 = 0 then bp (fRooms_at σ 0 v1 v2) (fun y2 => (if y2 = 0 then bp (fRooms_bears σ 0 v1 v2) (fun y3 => (if y3 = 0 then some ((-5)) else some 0)) else some ((-4)))) else some y1))
def fI_refusalToFill (σ : Sg) (v1 : Int32) (v2 : Int32) : Option (Int32) := fI_refusalToFill_0 σ  v1 v2
def fI_cut_71 (σ : Sg) (t0 : Int32) : Option (Int32 × Sg) :=
  bi (fI_answer σ t0) (fun y7 σ8 => some (y7, σ8))
def fI_cut_48 (σ : Sg) (x1 : Int32) (x2 : Int32) (x3 : Int32) (x4 : Int32) (x5 : Int32) : Option (Int32 × Sg) :=
  if x5 = 0 then bi (fStore_cutBlock σ 0 x1 x2 x3 x4) (fun y5 σ6 => fI_cut_71 σ6 y5) else fI_cut_71 σ x5
def fI_cut_0 (σ : Sg) (v1 : Int32) (v2 : Int32) (v3 : Int32) (v4 : Int32) : Option (Int32 × Sg) :=
  bp (fI_isWeightOfKind σ v3 v4) (fun y1 => (if y1 = 0 then bi (fI_answer σ ((-1))) (fun y3 σ4 => some (y3, σ4)) else bp (fI_refusalToFill σ v1 v2) (fun y2 => (if y2 = 0 then if (σ 0 15 0) < 300 then fI_cut_48 σ v1 v2 v3 v4 y2 else fI_cut_48 σ v1 v2 v3 v4 ((-6)) else fI_cut_48 σ v1 v2 v3 v4 y2))))
def fI_cut (σ : Sg) (v1 : Int32) (v2 : Int32) (v3 : Int32) (v4 : Int32) : Option (Int32 × Sg) := fI_cut_0 σ  v1 v2 v3 v4
def fI_put_76 (σ : Sg) (x4 : Int32) : Option (Int32 × Sg) :=
  bi (fI_answer σ x4) (fun y7 σ8 => some (y7, σ8))
def fI_put_73 (σ : Sg) (x4 : Int32) (t0 : Int32) (t1 : Int32) (t2 : Int32) : Option (Int32 × Sg) :=
  bp (fRooms_fill σ 0 t2 t1 t0) (fun σ6 => fI_put_76 σ6 x4)
def fI_put_50 (σ : Sg) (x1 : Int32) (x2 : Int32) (x3 : Int32) (x4 : Int32) : Option (Int32 × Sg) :=
  if x4 = 0 then if x3 = 0 then fI_put_73 σ x4 1 x2 x1 else fI_put_73 σ x4 2 x2 x1 else fI_put_76 σ x4
def fI_put_0 (σ : Sg) (v1 : Int32) (v2 : Int32) (v3 : Int32) : Option (Int32 × Sg) :=
  bp (fI_within σ v3 0 1) (fun y1 => (if y1 = 0 then bi (fI_answer σ ((-1))) (fun y4 σ5 => some (y4, σ5)) else bp (fI_refusalToFill σ v1 v2) (fun y2 => (if y2 = 0 then if v3 = 0 then bp (fRooms_mayHoldStraw σ 0 v1) (fun y3 => (if y3 = 0 then fI_put_50 σ v1 v2 v3 ((-7)) else fI_put_50 σ v1 v2 v3 y2)) else fI_put_50 σ v1 v2 v3 y2 else fI_put_50 σ v1 v2 v3 y2))))
def fI_put (σ : Sg) (v1 : Int32) (v2 : Int32) (v3 : Int32) : Option (Int32 × Sg) := fI_put_0 σ  v1 v2 v3
def fI_clear_58 (σ : Sg) : Option (Int32 × Sg) :=
  bi (fI_answer σ ((-7))) (fun y5 σ6 => some (y5, σ6))
def fI_clear_43 (σ : Sg) (x1 : Int32) (x2 : Int32) : Option (Int32 × Sg) :=
  bp (fRooms_above σ 0 x1 x2) (fun y7 => (if y7 = 0 then bp (fRooms_fill σ 0 x1 x2 0) (fun σ8 => bi (fI_answer σ8 0) (fun y9 σ10 => some (y9, σ10))) else fI_clear_58 σ))
def fI_clear_0 (σ : Sg) (v1 : Int32) (v2 : Int32) : Option (Int32 × Sg) :=
  bp (fI_refusalOfPlace σ v1 v2) (fun y1 => (if y1 = 0 then bp (fRooms_at σ 0 v1 v2) (fun y2 => (if y2 = 1 then fI_clear_43 σ v1 v2 else if y2 = 2 then fI_clear_43 σ v1 v2 else fI_clear_58 σ)) else bi (fI_answer σ y1) (fun y3 σ4 => some (y3, σ4))))
def fI_clear (σ : Sg) (v1 : Int32) (v2 : Int32) : Option (Int32 × Sg) := fI_clear_0 σ  v1 v2
def fI_place_0 (σ : Sg) (v1 : Int32) (v2 : Int32) : Option (Int32) :=
  bp (fI_refusalOfPlace σ v1 v2) (fun y1 => (if y1 = 0 then bp (fRooms_at σ 0 v1 v2) (fun y2 => some y2) else some y1))
def fI_place (σ : Sg) (v1 : Int32) (v2 : Int32) : Option (Int32) := fI_place_0 σ  v1 v2
def fI_howBlockLies_0 (σ : Sg) (v1 : Int32) (v2 : Int32) : Option (Int32 × Sg) :=
  gd (ib v1 300) (lt (σ 0 18 v1.toNatClampNeg) (fun y1 => gd (ib v1 300) (lt (σ 0 19 v1.toNatClampNeg) (fun y2 => bp (fRooms_has σ 0 y1) (fun y3 => (if y3 = 0 then some (0, σ) else bp (fSides_look σ 0 y1 y2) (fun σ4 => (if v2 = 6 then some (σ4 6 11 0, σ4) else (if v2 = 7 then some (σ4 6 11 1, σ4) else (if v2 = 8 then bp (fI_tenthsToday σ4) (fun y5 => bp (fMelting_warmthIn σ4 0 y1 y5) (fun y6 => bi (fMelting_lossOf σ4 0 v1 y6) (fun y7 σ8 => some (y7, σ8)))) else (bp (fRooms_isFreeBlock σ4 0 y1 y2) (fun y9 => (if y9 = 0 then some (0, σ4) else some (1, σ4))))))))))))))
def fI_howBlockLies (σ : Sg) (v1 : Int32) (v2 : Int32) : Option (Int32 × Sg) := fI_howBlockLies_0 σ  v1 v2
def fI_block_0 (σ : Sg) (v1 : Int32) (v2 : Int32) : Option (Int32 × Sg) :=
  bp (fI_within σ v2 0 9) (fun y1 => (if y1 = 0 then some ((-1), σ) else bp (fBlocks_has σ 0 v1) (fun y2 => (if y2 = 0 then some ((-2), σ) else if v2 = 0 then gd (ib v1 300) (some (σ 0 16 v1.toNatClampNeg, σ)) else (if v2 = 1 then gd (ib v1 300) (some (σ 0 17 v1.toNatClampNeg, σ)) else (if v2 = 2 then gd (ib v1 300) (some (σ 0 18 v1.toNatClampNeg, σ)) else (if v2 = 3 then gd (ib v1 300) (some (σ 0 19 v1.toNatClampNeg, σ)) else (if v2 = 4 then gd (ib v1 300) (some (σ 0 20 v1.toNatClampNeg, σ)) else (if v2 = 5 then gd (ib v1 300) (some (σ 0 21 v1.toNatClampNeg, σ)) else (bi (fI_howBlockLies σ v1 v2) (fun y3 σ4 => some (y3, σ4))))))))))))
def fI_block (σ : Sg) (v1 : Int32) (v2 : Int32) : Option (Int32 × Sg) := fI_block_0 σ  v1 v2
def fI_warm_35 (σ : Sg) (t0 : Int32) : Option (Int32 × Sg) :=
  bi (fI_answer σ t0) (fun y6 σ7 => some (y6, σ7))
def fI_warm_0 (σ : Sg) (v1 : Int32) (v2 : Int32) : Option (Int32 × Sg) :=
  bp (fI_within σ v1 0 199) (fun y1 => (if y1 = 0 then bi (fI_answer σ ((-1))) (fun y4 σ5 => some (y4, σ5)) else bi (fCalendar_tell σ v1 v2) (fun y2 σ3 => (if y2 = 0 then fI_warm_35 σ3 ((-1)) else fI_warm_35 σ3 0))))
def fI_warm (σ : Sg) (v1 : Int32) (v2 : Int32) : Option (Int32 × Sg) := fI_warm_0 σ  v1 v2
def fI_tenths_0 (σ : Sg) (v1 : Int32) : Option (Int32) :=
  bp (fI_within σ v1 0 199) (fun y1 => (if y1 = 0 then some ((-1000)) else bp (fCalendar_tenthsOf σ v1) (fun y2 => some y2)))
def fI_tenths (σ : Sg) (v1 : Int32) : Option (Int32) := fI_tenths_0 σ  v1
def fI_terms_31 (σ : Sg) : Option (Int32 × Sg) :=
  bi (fI_answer σ ((-1))) (fun y9 σ10 => some (y9, σ10))
def fI_terms_0 (σ : Sg) (v1 : Int32) (v2 : Int32) (v3 : Int32) : Option (Int32 × Sg) :=
  bp (fI_within σ v1 0 100) (fun y1 => (if y1 = 0 then fI_terms_31 σ else bp (fI_within σ v2 0 10000) (fun y2 => (if y2 = 0 then fI_terms_31 σ else bp (fI_within σ v3 1 1000000) (fun y3 => (if y3 = 0 then fI_terms_31 σ else lt (upA σ 6 2 (upd (σ 6 2) 0 v1)) (fun σ4 => lt (upA σ4 6 2 (upd (σ4 6 2) 1 v2)) (fun σ5 => lt (upA σ5 6 2 (upd (σ5 6 2) 2 v3)) (fun σ6 => bi (fI_answer σ6 0) (fun y7 σ8 => some (y7, σ8)))))))))))
def fI_terms (σ : Sg) (v1 : Int32) (v2 : Int32) (v3 : Int32) : Option (Int32 × Sg) := fI_terms_0 σ  v1 v2 v3
def fI_count_0 (lv : Nat → Bool) (σ : Sg) (v1 : Int32) : Option (Int32) :=
  if v1 = 0 then some (σ 0 0 0) else (if v1 = 1 then some (σ 0 0 1) else (if v1 = 2 then bp (fStore_gramsInRooms σ 0) (fun y1 => some y1) else (if v1 = 3 then some (σ 0 0 2) else (if v1 = 4 then some (σ 0 0 3) else (if v1 = 5 then some (σ 0 0 4) else (if v1 = 6 then bp (fRooms_ledInAll σ 0) (fun y2 => some y2) else (if v1 = 7 then bp (fRooms_standingInAll σ 0) (fun y3 => some y3) else (if v1 = 8 then some (σ 0 15 0) else (if v1 = 9 then bp (fStore_blocksInRooms σ 0) (fun y4 => some y4) else (if v1 = 10 then some (σ 0 1 0) else (if v1 = 11 then some (σ 6 3 0) else (if v1 = 12 then bp (fJourney_daysInAll σ) (fun y5 => some y5) else (if v1 = 13 then if lv 8 = true then some (σ 8 0 0) else some 0 else (if v1 = 14 then some (σ 6 4 0) else (if v1 = 15 then some (σ 6 0 10) else (some ((-1))))))))))))))))))
def fI_count (lv : Nat → Bool) (σ : Sg) (v1 : Int32) : Option (Int32) := fI_count_0 lv σ  v1
def fI_next_0 (σ : Sg) (v1 : Int32) : Option (Int32 × Sg) :=
  bp (fRooms_has σ 0 v1) (fun y1 => (if y1 = 0 then some ((-2), σ) else bp (fI_tenthsToday σ) (fun y2 => bi (fMelting_nearest σ 0 v1 y2) (fun y3 σ4 => some (y3, σ4)))))
def fI_next (σ : Sg) (v1 : Int32) : Option (Int32 × Sg) := fI_next_0 σ  v1
def fI_liftNext_0 (σ : Sg) (v1 : Int32) : Option (Int32 × Sg) :=
  bp (fI_tenthsToday σ) (fun y1 => bi (fMelting_nearest σ 0 v1 y1) (fun y2 σ3 => (if y2 = ((-1)) then some (0, σ3) else if (σ3 6 0 9) < 180 then bp (fStore_liftUp σ3 0 y2) (fun σ4 => gd (ib (σ4 6 0 9) 180) (lt (upA σ4 6 6 (upd (σ4 6 6) (σ4 6 0 9).toNatClampNeg y2)) (fun σ5 => lt (upA σ5 6 0 (upd (σ5 6 0) 9 ((σ5 6 0 9) + 1))) (fun σ6 => some (1, σ6))))) else some (0, σ3))))
def fI_liftNext (σ : Sg) (v1 : Int32) : Option (Int32 × Sg) := fI_liftNext_0 σ  v1
def fI_lift_21_b (k21 : Sg → Int32 → Int32 → Int32 → Option (Int32 × Sg)) (σ : Sg) (x1 : Int32) (x2 : Int32) (x3 : Int32) : Option (Int32 × Sg) :=
  if x2 ≤ x3 then some (1, σ) else bi (fI_liftNext σ x1) (fun y3 σ4 => lt (x3 + 1) (fun y5 => k21 σ4 x1 x2 y5))
def fI_lift_21 (n : Nat) (σ : Sg) (x1 : Int32) (x2 : Int32) (x3 : Int32) : Option (Int32 × Sg) := match n with
  | 0 => none
  | n + 1 => fI_lift_21_b  (fun σ x1 x2 x3 => fI_lift_21  n σ  x1 x2 x3) σ  x1 x2 x3
def fI_lift_0 (σ : Sg) (v1 : Int32) (v2 : Int32) : Option (Int32 × Sg) :=
  lt (upA σ 6 0 (upd (σ 6 0) 9 0)) (fun σ1 => bp (fStore_blocksIn σ1 0 v1) (fun y2 => (if v2 ≤ y2 then fI_lift_21 FU σ1 v1 v2 0 else some (0, σ1))))
def fI_lift (σ : Sg) (v1 : Int32) (v2 : Int32) : Option (Int32 × Sg) := fI_lift_0 σ  v1 v2
def fI_sellLifted_4_b (k4 : Sg → Int32 → Int32 → Option (Int32 × Sg)) (σ : Sg) (x1 : Int32) (x2 : Int32) : Option (Int32 × Sg) :=
  if (σ 6 0 9) ≤ x2 then lt (upA σ 6 0 (upd (σ 6 0) 10 (σ 6 0 9))) (fun σ1 => lt (upA σ1 0 0 (upd (σ1 0 0) 2 ((σ1 0 0 2) + x1))) (fun σ2 => some (x1, σ2))) else gd (ib x2 180) (lt (σ 6 6 x2.toNatClampNeg) (fun y3 => gd (ib y3 300) (lt (x1 + (σ 0 17 y3.toNatClampNeg)) (fun y4 => bp (fBlocks_leave σ 0 y3) (fun σ5 => gd (ib x2 180) (lt (upA σ5 6 7 (upd (σ5 6 7) x2.toNatClampNeg y3)) (fun σ6 => lt (x2 + 1) (fun y7 => k4 σ6 y4 y7))))))))
def fI_sellLifted_4 (n : Nat) (σ : Sg) (x1 : Int32) (x2 : Int32) : Option (Int32 × Sg) := match n with
  | 0 => none
  | n + 1 => fI_sellLifted_4_b  (fun σ x1 x2 => fI_sellLifted_4  n σ  x1 x2) σ  x1 x2
def fI_sellLifted_0 (σ : Sg) : Option (Int32 × Sg) :=
  fI_sellLifted_4 FU σ 0 0
def fI_sellLifted (σ : Sg) : Option (Int32 × Sg) := fI_sellLifted_0 σ  
def fI_take_0 (σ : Sg) (v1 : Int32) (v2 : Int32) : Option (Int32 × Sg) :=
  bp (fI_within σ v2 1 300) (fun y1 => (if y1 = 0 then bi (fI_answer σ ((-1))) (fun y13 σ14 => some (y13, σ14)) else bp (fRooms_has σ 0 v1) (fun y2 => (if y2 = 0 then bi (fI_answer σ ((-2))) (fun y11 σ12 => some (y11, σ12)) else bi (fI_lift σ v1 v2) (fun y3 σ4 => (if y3 = 0 then bi (fI_answer σ4 ((-6))) (fun y9 σ10 => some (y9, σ10)) else bi (fI_sellLifted σ4) (fun y5 σ6 => bi (fI_answer σ6 y5) (fun y7 σ8 => some (y7, σ8)))))))))
def fI_take (σ : Sg) (v1 : Int32) (v2 : Int32) : Option (Int32 × Sg) := fI_take_0 σ  v1 v2
def fI_way_20 (σ : Sg) : Option (Int32 × Sg) :=
  bi (fI_answer σ ((-1))) (fun y1 σ2 => some (y1, σ2))
def fI_way_10 (σ : Sg) (x1 : Int32) (x2 : Int32) : Option (Int32 × Sg) :=
  bp (fI_within σ x2 0 20) (fun y3 => (if y3 = 0 then fI_way_20 σ else if (σ 6 3 0) < 6 then bi (fJourney_stretch σ x1 x2) (fun y4 σ5 => bi (fI_answer σ5 y4) (fun y6 σ7 => some (y6, σ7))) else bi (fI_answer σ ((-6))) (fun y8 σ9 => some (y8, σ9))))
def fI_way_0 (σ : Sg) (v1 : Int32) (v2 : Int32) : Option (Int32 × Sg) :=
  if v1 = 4 then fI_way_10 σ v1 v2 else if v1 = 3 then fI_way_10 σ v1 v2 else fI_way_20 σ
def fI_way (σ : Sg) (v1 : Int32) (v2 : Int32) : Option (Int32 × Sg) := fI_way_0 σ  v1 v2
def fI_home_0 (σ : Sg) : Option (Int32 × Sg) :=
  lt (σ 6 3 0) (fun y1 => lt (upA σ 6 3 (upd (σ 6 3) 0 0)) (fun σ2 => some (y1, σ2)))
def fI_home (σ : Sg) : Option (Int32 × Sg) := fI_home_0 σ  
def fI_atWaysEnd_0 (σ : Sg) (v1 : Int32) : Option (Int32) :=
  gd (ib v1 300) (gd (ib v1 300) (bp (fJourney_leaves σ (σ 0 16 v1.toNatClampNeg) (σ 0 17 v1.toNatClampNeg) (σ 0 0 0) (σ 6 2 2)) (fun y1 => some y1)))
def fI_atWaysEnd (σ : Sg) (v1 : Int32) : Option (Int32) := fI_atWaysEnd_0 σ  v1
def fI_putLiftedBack_2_b (k2 : Sg → Int32 → Option (Sg)) (σ : Sg) (x1 : Int32) : Option (Sg) :=
  if (σ 6 0 9) ≤ x1 then some σ else gd (ib x1 180) (bp (fStore_layDown σ 0 (σ 6 6 x1.toNatClampNeg)) (fun σ1 => lt (x1 + 1) (fun y2 => k2 σ1 y2)))
def fI_putLiftedBack_2 (n : Nat) (σ : Sg) (x1 : Int32) : Option (Sg) := match n with
  | 0 => none
  | n + 1 => fI_putLiftedBack_2_b  (fun σ x1 => fI_putLiftedBack_2  n σ  x1) σ  x1
def fI_putLiftedBack_0 (σ : Sg) : Option (Sg) :=
  fI_putLiftedBack_2 FU σ 0
def fI_putLiftedBack (σ : Sg) : Option (Sg) := fI_putLiftedBack_0 σ  
def fI_comes_47_b (k47 : Sg → Int32 → Int32 → Option (Int32 × Sg)) (σ : Sg) (x3 : Int32) (x4 : Int32) : Option (Int32 × Sg) :=
  if (σ 6 0 9) ≤ x4 then bp (fI_putLiftedBack σ) (fun σ5 => some (x3, σ5)) else gd (ib x4 180) (bp (fI_atWaysEnd σ (σ 6 6 x4.toNatClampNeg)) (fun y6 => lt (x3 + y6) (fun y7 => lt (x4 + 1) (fun y8 => k47 σ y7 y8))))
def fI_comes_47 (n : Nat) (σ : Sg) (x3 : Int32) (x4 : Int32) : Option (Int32 × Sg) := match n with
  | 0 => none
  | n + 1 => fI_comes_47_b  (fun σ x3 x4 => fI_comes_47  n σ  x3 x4) σ  x3 x4
def fI_comes_0 (σ : Sg) (v1 : Int32) (v2 : Int32) : Option (Int32 × Sg) :=
  bp (fI_within σ v2 0 300) (fun y1 => (if y1 = 0 then some ((-1), σ) else bp (fRooms_has σ 0 v1) (fun y2 => (if y2 = 0 then some ((-2), σ) else bi (fI_lift σ v1 v2) (fun y3 σ4 => (if y3 = 0 then some ((-6), σ4) else fI_comes_47 FU σ4 0 0))))))
def fI_comes (σ : Sg) (v1 : Int32) (v2 : Int32) : Option (Int32 × Sg) := fI_comes_0 σ  v1 v2
def fI_billOfLifted_63 (k4 : Int32 → Int32 → Option (Int32)) (σ : Sg) (x1 : Int32) (x2 : Int32) (x3 : Int32) (t0 : Int32) : Option (Int32) :=
  gd (ib x3 300) (gd (ib t0 3) (lt (x1 + (((((σ 0 17 x3.toNatClampNeg).toInt64) * ((σ 6 5 t0.toNatClampNeg).toInt64)) / 1000).toInt32)) (fun y2 => lt (x2 + 1) (fun y3 => k4 y2 y3))))
def fI_billOfLifted_40 (k4 : Int32 → Int32 → Option (Int32)) (σ : Sg) (x1 : Int32) (x2 : Int32) (x3 : Int32) (t0 : Int32) : Option (Int32) :=
  if t0 = 0 then gd (ib x3 300) (fI_billOfLifted_63 k4 σ x1 x2 x3 (σ 0 16 x3.toNatClampNeg)) else fI_billOfLifted_63 k4 σ x1 x2 x3 0
def fI_billOfLifted_4_b (k4 : Int32 → Int32 → Option (Int32)) (σ : Sg) (x1 : Int32) (x2 : Int32) : Option (Int32) :=
  if (σ 6 0 9) ≤ x2 then some x1 else gd (ib x2 180) (lt (σ 6 6 x2.toNatClampNeg) (fun y1 => gd (ib y1 300) ((if (σ 0 21 y1.toNatClampNeg) = ((-1)) then fI_billOfLifted_40 k4 σ x1 x2 y1 0 else fI_billOfLifted_40 k4 σ x1 x2 y1 1))))
def fI_billOfLifted_4 (n : Nat) (σ : Sg) (x1 : Int32) (x2 : Int32) : Option (Int32) := match n with
  | 0 => none
  | n + 1 => fI_billOfLifted_4_b  (fun x1 x2 => fI_billOfLifted_4  n σ  x1 x2) σ  x1 x2
def fI_billOfLifted_0 (σ : Sg) : Option (Int32) :=
  fI_billOfLifted_4 FU σ 0 0
def fI_billOfLifted (σ : Sg) : Option (Int32) := fI_billOfLifted_0 σ  
def fI_liftToSend_10_b (k10 : Sg → Int32 → Int32 → Int32 → Int32 → Option (Int32 × Sg)) (σ : Sg) (x1 : Int32) (x2 : Int32) (x3 : Int32) (x4 : Int32) : Option (Int32 × Sg) :=
  if 180 ≤ x4 then some (x3, σ) else if x2 ≤ x3 then some (x3, σ) else bi (fI_liftNext σ x1) (fun y2 σ3 => (if y2 = 0 then some (x3, σ3) else gd (ib ((σ3 6 0 9) - 1) 180) (bp (fI_atWaysEnd σ3 (σ3 6 6 ((σ3 6 0 9) - 1).toNatClampNeg)) (fun y4 => lt (x3 + y4) (fun y5 => lt (x4 + 1) (fun y6 => k10 σ3 x1 x2 y5 y6))))))
def fI_liftToSend_10 (n : Nat) (σ : Sg) (x1 : Int32) (x2 : Int32) (x3 : Int32) (x4 : Int32) : Option (Int32 × Sg) := match n with
  | 0 => none
  | n + 1 => fI_liftToSend_10_b  (fun σ x1 x2 x3 x4 => fI_liftToSend_10  n σ  x1 x2 x3 x4) σ  x1 x2 x3 x4
def fI_liftToSend_0 (σ : Sg) (v1 : Int32) (v2 : Int32) : Option (Int32 × Sg) :=
  lt (upA σ 6 0 (upd (σ 6 0) 9 0)) (fun σ1 => fI_liftToSend_10 FU σ1 v1 v2 0 0)
def fI_liftToSend (σ : Sg) (v1 : Int32) (v2 : Int32) : Option (Int32 × Sg) := fI_liftToSend_0 σ  v1 v2
def fI_send_0 (σ : Sg) (v1 : Int32) (v2 : Int32) : Option (Int32 × Sg) :=
  bp (fI_within σ v2 1 100000000) (fun y1 => (if y1 = 0 then bi (fI_answer σ ((-1))) (fun y21 σ22 => some (y21, σ22)) else bp (fRooms_has σ 0 v1) (fun y2 => (if y2 = 0 then bi (fI_answer σ ((-2))) (fun y19 σ20 => some (y19, σ20)) else bi (fI_liftToSend σ v1 v2) (fun y3 σ4 => (if v2 ≤ y3 then lt (upA σ4 6 0 (upd (σ4 6 0) 11 0)) (fun σ5 => lt (upA σ5 6 0 (upd (σ5 6 0) 12 y3)) (fun σ6 => bp (fI_billOfLifted σ6) (fun y7 => lt (upA σ6 6 0 (upd (σ6 6 0) 13 y7)) (fun σ8 => bi (fI_sellLifted σ8) (fun y9 σ10 => bi (fI_answer σ10 (σ10 6 0 10)) (fun y11 σ12 => some (y11, σ12))))))) else bp (fI_putLiftedBack σ4) (fun σ13 => lt (upA σ13 6 0 (upd (σ13 6 0) 11 (v2 - y3))) (fun σ14 => lt (upA σ14 6 0 (upd (σ14 6 0) 12 0)) (fun σ15 => lt (upA σ15 6 0 (upd (σ15 6 0) 13 0)) (fun σ16 => bi (fI_answer σ16 ((-6))) (fun y17 σ18 => some (y17, σ18))))))))))))
def fI_send (σ : Sg) (v1 : Int32) (v2 : Int32) : Option (Int32 × Sg) := fI_send_0 σ  v1 v2
def fI_sent_0 (σ : Sg) (v1 : Int32) : Option (Int32) :=
  if v1 = 0 then some (σ 6 0 11) else (if v1 = 1 then some (σ 6 0 12) else (if v1 = 2 then some (σ 6 0 13) else (some ((-1)))))
def fI_sent (σ : Sg) (v1 : Int32) : Option (Int32) := fI_sent_0 σ  v1
def fI_list_0 (σ : Sg) (v1 : Int32) : Option (Int32) :=
  bp (fI_within σ v1 0 ((σ 6 0 10) - 1)) (fun y1 => (if y1 = 0 then some ((-1)) else gd (ib v1 180) (some (σ 6 7 v1.toNatClampNeg))))
def fI_list (σ : Sg) (v1 : Int32) : Option (Int32) := fI_list_0 σ  v1
def fI_price_20 (σ : Sg) : Option (Int32 × Sg) :=
  bi (fI_answer σ ((-1))) (fun y6 σ7 => some (y6, σ7))
def fI_price_0 (σ : Sg) (v1 : Int32) (v2 : Int32) : Option (Int32 × Sg) :=
  bp (fI_within σ v1 0 2) (fun y1 => (if y1 = 0 then fI_price_20 σ else bp (fI_within σ v2 0 5000) (fun y2 => (if y2 = 0 then fI_price_20 σ else gd (ib v1 3) (lt (upA σ 6 5 (upd (σ 6 5) v1.toNatClampNeg v2)) (fun σ3 => bi (fI_answer σ3 0) (fun y4 σ5 => some (y4, σ5))))))))
def fI_price (σ : Sg) (v1 : Int32) (v2 : Int32) : Option (Int32 × Sg) := fI_price_0 σ  v1 v2
def fI_foretold_0 (lv : Nat → Bool) (σ : Sg) (v1 : Int32) (v2 : Int32) : Option (Int32) :=
  if lv 9 = true then bp (fForecast_gramsBehind σ v1 v2) (fun y2 => some y2) else some ((-1))
def fI_foretold (lv : Nat → Bool) (σ : Sg) (v1 : Int32) (v2 : Int32) : Option (Int32) := fI_foretold_0 lv σ  v1 v2
def fI_last_0 (lv : Nat → Bool) (σ : Sg) : Option (Int32) :=
  if lv 9 = true then some (σ 9 0 1) else some ((-1))
def fI_last (lv : Nat → Bool) (σ : Sg) : Option (Int32) := fI_last_0 lv σ  
def fI_heap_0 (σ : Sg) (v1 : Int32) (v2 : Int32) : Option (Int32 × Sg) :=
  bp (fI_isWeightOfKind σ v1 v2) (fun y1 => (if y1 = 0 then bi (fI_answer σ ((-1))) (fun y8 σ9 => some (y8, σ9)) else if (σ 6 4 0) < 30 then bi (fHeap_add σ v1 v2) (fun y2 σ3 => bi (fI_answer σ3 y2) (fun y4 σ5 => some (y4, σ5))) else bi (fI_answer σ ((-6))) (fun y6 σ7 => some (y6, σ7))))
def fI_heap (σ : Sg) (v1 : Int32) (v2 : Int32) : Option (Int32 × Sg) := fI_heap_0 σ  v1 v2
def fI_cutHeapInto_79 (lv : Nat → Bool) (k18 : Sg → Int32 → Int32 → Int32 → Int32 → Option (Sg)) (σ : Sg) (x1 : Int32) (x2 : Int32) (x3 : Int32) (x4 : Int32) : Option (Sg) :=
  lt (x4 + 1) (fun y7 => k18 σ x1 x2 x3 y7)
def fI_cutHeapInto_85 (lv : Nat → Bool) (σ : Sg) : Option (Sg) :=
  lt (upA σ 6 4 (upd (σ 6 4) 0 0)) (fun σ8 => some σ8)
def fI_cutHeapInto_18_b (lv : Nat → Bool) (k18 : Sg → Int32 → Int32 → Int32 → Int32 → Option (Sg)) (σ : Sg) (x1 : Int32) (x2 : Int32) (x3 : Int32) (x4 : Int32) : Option (Sg) :=
  if x3 ≤ x4 then fI_cutHeapInto_85 lv σ else if (σ 6 4 0) ≤ x2 then fI_cutHeapInto_85 lv σ else gd (lv 10) (bp (fPacker_isChosen σ x4) (fun y3 => (if y3 = 0 then fI_cutHeapInto_79 lv k18 σ x1 x2 x3 x4 else gd (ib x2 30) (gd (ib x2 30) (bi (fStore_cutBlock σ 0 x1 x4 (σ 6 16 x2.toNatClampNeg) (σ 6 17 x2.toNatClampNeg)) (fun y4 σ5 => lt (x2 + 1) (fun y6 => fI_cutHeapInto_79 lv k18 σ5 x1 y6 x3 x4)))))))
def fI_cutHeapInto_18 (lv : Nat → Bool) (n : Nat) (σ : Sg) (x1 : Int32) (x2 : Int32) (x3 : Int32) (x4 : Int32) : Option (Sg) := match n with
  | 0 => none
  | n + 1 => fI_cutHeapInto_18_b lv (fun σ x1 x2 x3 x4 => fI_cutHeapInto_18 lv n σ  x1 x2 x3 x4) σ  x1 x2 x3 x4
def fI_cutHeapInto_0 (lv : Nat → Bool) (σ : Sg) (v1 : Int32) : Option (Sg) :=
  gd (ib v1 8) (lt (σ 0 8 v1.toNatClampNeg) (fun y1 => fI_cutHeapInto_18 lv FU σ v1 0 y1 0))
def fI_cutHeapInto (lv : Nat → Bool) (σ : Sg) (v1 : Int32) : Option (Sg) := fI_cutHeapInto_0 lv σ  v1
def fI_back_58 (lv : Nat → Bool) (σ : Sg) : Option (Int32 × Sg) :=
  bi (fI_answer σ 0) (fun y12 σ13 => some (y12, σ13))
def fI_back_0 (lv : Nat → Bool) (σ : Sg) (v1 : Int32) : Option (Int32 × Sg) :=
  bp (fI_within σ v1 0 3) (fun y1 => (if y1 = 0 then bi (fI_answer σ ((-1))) (fun y10 σ11 => some (y10, σ11)) else gd (ib v1 4) ((if lv (2 + v1.toNatClampNeg) = true then gd (ib v1 4) (bp (fStore_copyFrom σ 0 (2 + v1.toNatClampNeg)) (fun σ5 => (if lv 8 = true then bp (fBook_empty σ5) (fun σ7 => fI_back_58 lv σ7) else fI_back_58 lv σ5))) else bi (fI_answer σ ((-2))) (fun y8 σ9 => some (y8, σ9))))))
def fI_back (lv : Nat → Bool) (σ : Sg) (v1 : Int32) : Option (Int32 × Sg) := fI_back_0 lv σ  v1
def fI_refusalOfLine_0 (lv : Nat → Bool) (σ : Sg) (v1 : Int32) (v2 : Int32) : Option (Int32) :=
  bp (fI_within σ v2 0 5) (fun y1 => (if y1 = 0 then some ((-1)) else if lv 8 = true then bp (fI_within σ v1 0 ((σ 8 0 0) - 1)) (fun y3 => (if y3 = 0 then some ((-2)) else some 0)) else some ((-2))))
def fI_refusalOfLine (lv : Nat → Bool) (σ : Sg) (v1 : Int32) (v2 : Int32) : Option (Int32) := fI_refusalOfLine_0 lv σ  v1 v2
def fI_line_18 (lv : Nat → Bool) (σ : Sg) (x3 : Int32) : Option (Int32) :=
  some x3
def fI_line_0 (lv : Nat → Bool) (σ : Sg) (v1 : Int32) (v2 : Int32) : Option (Int32) :=
  bp (fI_refusalOfLine lv σ v1 v2) (fun y1 => (if y1 = 0 then if lv 8 = true then bp (fBook_number σ v1 v2) (fun y3 => some y3) else fI_line_18 lv σ y1 else fI_line_18 lv σ y1))
def fI_line (lv : Nat → Bool) (σ : Sg) (v1 : Int32) (v2 : Int32) : Option (Int32) := fI_line_0 lv σ  v1 v2
def fI_alter_38 (lv : Nat → Bool) (σ : Sg) (x4 : Int32) : Option (Int32 × Sg) :=
  bi (fI_answer σ x4) (fun y4 σ5 => some (y4, σ5))
def fI_alter_14 (lv : Nat → Bool) (σ : Sg) (x1 : Int32) (x2 : Int32) (x3 : Int32) (t0 : Int32) : Option (Int32 × Sg) :=
  if t0 = 0 then if lv 8 = true then bp (fBook_change σ x1 x2 x3) (fun σ3 => fI_alter_38 lv σ3 t0) else fI_alter_38 lv σ t0 else fI_alter_38 lv σ t0
def fI_alter_0 (lv : Nat → Bool) (σ : Sg) (v1 : Int32) (v2 : Int32) (v3 : Int32) : Option (Int32 × Sg) :=
  if v3 = 0 then fI_alter_14 lv σ v1 v2 v3 ((-1)) else bp (fI_refusalOfLine lv σ v1 v2) (fun y1 => fI_alter_14 lv σ v1 v2 v3 y1)
def fI_alter (lv : Nat → Bool) (σ : Sg) (v1 : Int32) (v2 : Int32) (v3 : Int32) : Option (Int32 × Sg) := fI_alter_0 lv σ  v1 v2 v3
def fI_check_17 (lv : Nat → Bool) (σ : Sg) : Option (Int32) :=
  some ((-7))
def fI_check_0 (lv : Nat → Bool) (σ : Sg) : Option (Int32) :=
  if lv 8 = true then if (σ 8 0 1) = 0 then fI_check_17 lv σ else bp (fBook_firstWrong σ) (fun y2 => some y2) else fI_check_17 lv σ
def fI_check (lv : Nat → Bool) (σ : Sg) : Option (Int32) := fI_check_0 lv σ  
def fI_status_0 (σ : Sg) : Option (Int32) :=
  some (σ 6 0 14)
def fI_status (σ : Sg) : Option (Int32) := fI_status_0 σ  
def fM_ends_10 (σ : Sg) (x1 : Int32) (t0 : Int32) : Option (Int32 × Sg) :=
  lt (upA σ 7 0 (upd (σ 7 0) 0 t0)) (fun σ1 => some (x1, σ1))
def fM_ends_0 (σ : Sg) (v1 : Int32) : Option (Int32 × Sg) :=
  if 0 ≤ v1 then fM_ends_10 σ v1 0 else fM_ends_10 σ v1 v1
def fM_ends (σ : Sg) (v1 : Int32) : Option (Int32 × Sg) := fM_ends_0 σ  v1
def fM_in_0 (σ : Sg) (v0 : Int32) (v1 : Int32) (v2 : Int32) : Option (Int32) :=
  if v0 < v1 then some 0 else if v2 < v0 then some 0 else some 1
def fM_in (σ : Sg) (v0 : Int32) (v1 : Int32) (v2 : Int32) : Option (Int32) := fM_in_0 σ  v0 v1 v2
def fM_warm_48 (σ : Sg) : Option (Int32 × Sg) :=
  bi (fM_ends σ ((-1))) (fun y6 σ7 => some (y6, σ7))
def fM_warm_77 (σ : Sg) (t0 : UInt32) (t1 : Int32) : Option (Int32 × Sg) :=
  gd (ib t1 200) (lt (upA σ 7 1 (upd (σ 7 1) t1.toNatClampNeg t0.toInt32)) (fun σ3 => bi (fM_ends σ3 0) (fun y4 σ5 => some (y4, σ5))))
def fM_warm_54 (σ : Sg) (x1 : Int32) (x3 : UInt32) (x4 : Int32) : Option (Int32 × Sg) :=
  gd (ib x1 200) (lt (upA σ 7 2 (upd (σ 7 2) x1.toNatClampNeg (vp_nar .boolean x4))) (fun σ2 => (if x4 = 0 then fM_warm_77 σ2 FP.fconst0 x1 else fM_warm_77 σ2 x3 x1)))
def fM_warm_16 (σ : Sg) (x1 : Int32) (x3 : UInt32) (t0 : Int32) : Option (Int32 × Sg) :=
  bp (fM_in σ x1 0 199) (fun y1 => (if y1 = 0 then fM_warm_48 σ else if t0 = 0 then fM_warm_54 σ x1 x3 t0 else if (Op.cmpValue (FP.fcmp x3 3262119936) .l) < 0 then fM_warm_48 σ else if (Op.cmpValue (FP.fcmp x3 1114636288) .g) ≤ 0 then fM_warm_54 σ x1 x3 t0 else fM_warm_48 σ))
def fM_warm_4 (σ : Sg) (x1 : Int32) (t0 : UInt32) : Option (Int32 × Sg) :=
  if (Op.cmpValue (FP.fcmp t0 t0) .l) = 0 then fM_warm_16 σ x1 t0 1 else fM_warm_16 σ x1 t0 0
def fM_tenthsOf_21 (σ : Sg) (x2 : Int32) : Option (Int32) :=
  gd (ib x2 200) ((if (σ 7 2 x2.toNatClampNeg) = 0 then some 0 else gd (ib x2 200) (gd (nn32 (FP.fmul ((σ 7 1 x2.toNatClampNeg).toUInt32) 1092616192)) (some (FP.f2i (FP.fmul ((σ 7 1 x2.toNatClampNeg).toUInt32) 1092616192))))))
def fM_tenthsOf_2_b (k2 : Int32 → Option (Int32)) (σ : Sg) (x2 : Int32) : Option (Int32) :=
  if x2 ≤ 0 then fM_tenthsOf_21 σ x2 else gd (ib x2 200) ((if (σ 7 2 x2.toNatClampNeg) = 0 then lt (x2 + (-1)) (fun y1 => k2 y1) else fM_tenthsOf_21 σ x2))
def fM_tenthsOf_2 (n : Nat) (σ : Sg) (x2 : Int32) : Option (Int32) := match n with
  | 0 => none
  | n + 1 => fM_tenthsOf_2_b  (fun x2 => fM_tenthsOf_2  n σ  x2) σ  x2
def fM_tenthsOf_0 (σ : Sg) (v1 : Int32) : Option (Int32) :=
  fM_tenthsOf_2 FU σ v1
def fM_tenthsOf (σ : Sg) (v1 : Int32) : Option (Int32) := fM_tenthsOf_0 σ  v1
def fM_tenths_0 (σ : Sg) (v1 : Int32) : Option (Int32) :=
  bp (fM_in σ v1 0 199) (fun y1 => (if y1 = 0 then some ((-1000)) else bp (fM_tenthsOf σ v1) (fun y2 => some y2)))
def fM_tenths (σ : Sg) (v1 : Int32) : Option (Int32) := fM_tenths_0 σ  v1
def fM_terms_31 (σ : Sg) : Option (Int32 × Sg) :=
  bi (fM_ends σ ((-1))) (fun y9 σ10 => some (y9, σ10))
def fM_terms_0 (σ : Sg) (v1 : Int32) (v2 : Int32) (v3 : Int32) : Option (Int32 × Sg) :=
  bp (fM_in σ v1 0 100) (fun y1 => (if y1 = 0 then fM_terms_31 σ else bp (fM_in σ v2 0 10000) (fun y2 => (if y2 = 0 then fM_terms_31 σ else bp (fM_in σ v3 1 1000000) (fun y3 => (if y3 = 0 then fM_terms_31 σ else lt (upA σ 7 0 (upd (σ 7 0) 3 v1)) (fun σ4 => lt (upA σ4 7 0 (upd (σ4 7 0) 4 v2)) (fun σ5 => lt (upA σ5 7 0 (upd (σ5 7 0) 5 v3)) (fun σ6 => bi (fM_ends σ6 0) (fun y7 σ8 => some (y7, σ8)))))))))))
def fM_terms (σ : Sg) (v1 : Int32) (v2 : Int32) (v3 : Int32) : Option (Int32 × Sg) := fM_terms_0 σ  v1 v2 v3
def fM_copy_280_b (k280 : Sg → Int32 → Int32 → Int32 → Option (Sg)) (σ : Sg) (x1 : Int32) (x2 : Int32) (x3 : Int32) : Option (Sg) :=
  if 300 ≤ x3 then some σ else lt ((300 * x1) + x3) (fun y20 => lt ((300 * x2) + x3) (fun y21 => gd (ib y20 1800) (gd (ib y21 1800) (lt (upA σ 7 19 (upd (σ 7 19) y21.toNatClampNeg (σ 7 19 y20.toNatClampNeg))) (fun σ22 => gd (ib y20 1800) (gd (ib y21 1800) (lt (upA σ22 7 20 (upd (σ22 7 20) y21.toNatClampNeg (σ22 7 20 y20.toNatClampNeg))) (fun σ23 => gd (ib y20 1800) (gd (ib y21 1800) (lt (upA σ23 7 21 (upd (σ23 7 21) y21.toNatClampNeg (σ23 7 21 y20.toNatClampNeg))) (fun σ24 => gd (ib y20 1800) (gd (ib y21 1800) (lt (upA σ24 7 22 (upd (σ24 7 22) y21.toNatClampNeg (σ24 7 22 y20.toNatClampNeg))) (fun σ25 => gd (ib y20 1800) (gd (ib y21 1800) (lt (upA σ25 7 23 (upd (σ25 7 23) y21.toNatClampNeg (σ25 7 23 y20.toNatClampNeg))) (fun σ26 => gd (ib y20 1800) (gd (ib y21 1800) (lt (upA σ26 7 24 (upd (σ26 7 24) y21.toNatClampNeg (σ26 7 24 y20.toNatClampNeg))) (fun σ27 => lt (x3 + 1) (fun y28 => k280 σ27 x1 x2 y28)))))))))))))))))))))
def fM_copy_280 (n : Nat) (σ : Sg) (x1 : Int32) (x2 : Int32) (x3 : Int32) : Option (Sg) := match n with
  | 0 => none
  | n + 1 => fM_copy_280_b  (fun σ x1 x2 x3 => fM_copy_280  n σ  x1 x2 x3) σ  x1 x2 x3
def fM_copy_241_b (k241 : Sg → Int32 → Int32 → Int32 → Option (Sg)) (σ : Sg) (x1 : Int32) (x2 : Int32) (x3 : Int32) : Option (Sg) :=
  if 1440 ≤ x3 then fM_copy_280 FU σ x1 x2 0 else gd (ib ((1440 * x1) + x3) 8640) (gd (ib ((1440 * x2) + x3) 8640) (lt (upA σ 7 18 (upd (σ 7 18) ((1440 * x2) + x3).toNatClampNeg (σ 7 18 ((1440 * x1) + x3).toNatClampNeg))) (fun σ18 => lt (x3 + 1) (fun y19 => k241 σ18 x1 x2 y19))))
def fM_copy_241 (n : Nat) (σ : Sg) (x1 : Int32) (x2 : Int32) (x3 : Int32) : Option (Sg) := match n with
  | 0 => none
  | n + 1 => fM_copy_241_b  (fun σ x1 x2 x3 => fM_copy_241  n σ  x1 x2 x3) σ  x1 x2 x3
def fM_copy_202_b (k202 : Sg → Int32 → Int32 → Int32 → Option (Sg)) (σ : Sg) (x1 : Int32) (x2 : Int32) (x3 : Int32) : Option (Sg) :=
  if 240 ≤ x3 then fM_copy_241 FU σ x1 x2 0 else gd (ib ((240 * x1) + x3) 1440) (gd (ib ((240 * x2) + x3) 1440) (lt (upA σ 7 17 (upd (σ 7 17) ((240 * x2) + x3).toNatClampNeg (vp_nar .boolean (σ 7 17 ((240 * x1) + x3).toNatClampNeg)))) (fun σ16 => lt (x3 + 1) (fun y17 => k202 σ16 x1 x2 y17))))
def fM_copy_202 (n : Nat) (σ : Sg) (x1 : Int32) (x2 : Int32) (x3 : Int32) : Option (Sg) := match n with
  | 0 => none
  | n + 1 => fM_copy_202_b  (fun σ x1 x2 x3 => fM_copy_202  n σ  x1 x2 x3) σ  x1 x2 x3
def fM_copy_74_b (k74 : Sg → Int32 → Int32 → Int32 → Option (Sg)) (σ : Sg) (x1 : Int32) (x2 : Int32) (x3 : Int32) : Option (Sg) :=
  if 8 ≤ x3 then fM_copy_202 FU σ x1 x2 0 else lt ((8 * x1) + x3) (fun y6 => lt ((8 * x2) + x3) (fun y7 => gd (ib y6 48) (gd (ib y7 48) (lt (upA σ 7 10 (upd (σ 7 10) y7.toNatClampNeg (σ 7 10 y6.toNatClampNeg))) (fun σ8 => gd (ib y6 48) (gd (ib y7 48) (lt (upA σ8 7 11 (upd (σ8 7 11) y7.toNatClampNeg (σ8 7 11 y6.toNatClampNeg))) (fun σ9 => gd (ib y6 48) (gd (ib y7 48) (lt (upA σ9 7 12 (upd (σ9 7 12) y7.toNatClampNeg (σ9 7 12 y6.toNatClampNeg))) (fun σ10 => gd (ib y6 48) (gd (ib y7 48) (lt (upA σ10 7 13 (upd (σ10 7 13) y7.toNatClampNeg (σ10 7 13 y6.toNatClampNeg))) (fun σ11 => gd (ib y6 48) (gd (ib y7 48) (lt (upA σ11 7 14 (upd (σ11 7 14) y7.toNatClampNeg (σ11 7 14 y6.toNatClampNeg))) (fun σ12 => gd (ib y6 48) (gd (ib y7 48) (lt (upA σ12 7 15 (upd (σ12 7 15) y7.toNatClampNeg (σ12 7 15 y6.toNatClampNeg))) (fun σ13 => gd (ib y6 48) (gd (ib y7 48) (lt (upA σ13 7 16 (upd (σ13 7 16) y7.toNatClampNeg (σ13 7 16 y6.toNatClampNeg))) (fun σ14 => lt (x3 + 1) (fun y15 => k74 σ14 x1 x2 y15))))))))))))))))))))))))
def fM_copy_74 (n : Nat) (σ : Sg) (x1 : Int32) (x2 : Int32) (x3 : Int32) : Option (Sg) := match n with
  | 0 => none
  | n + 1 => fM_copy_74_b  (fun σ x1 x2 x3 => fM_copy_74  n σ  x1 x2 x3) σ  x1 x2 x3
def fM_copy_38_b (k38 : Sg → Int32 → Int32 → Int32 → Option (Sg)) (σ : Sg) (x1 : Int32) (x2 : Int32) (x3 : Int32) : Option (Sg) :=
  if 6 ≤ x3 then fM_copy_74 FU σ x1 x2 0 else gd (ib ((6 * x1) + x3) 36) (gd (ib ((6 * x2) + x3) 36) (lt (upA σ 7 9 (upd (σ 7 9) ((6 * x2) + x3).toNatClampNeg (σ 7 9 ((6 * x1) + x3).toNatClampNeg))) (fun σ4 => lt (x3 + 1) (fun y5 => k38 σ4 x1 x2 y5))))
def fM_copy_38 (n : Nat) (σ : Sg) (x1 : Int32) (x2 : Int32) (x3 : Int32) : Option (Sg) := match n with
  | 0 => none
  | n + 1 => fM_copy_38_b  (fun σ x1 x2 x3 => fM_copy_38  n σ  x1 x2 x3) σ  x1 x2 x3
def fM_copy_0 (σ : Sg) (v1 : Int32) (v2 : Int32) : Option (Sg) :=
  gd (ib v1 6) (gd (ib v2 6) (lt (upA σ 7 6 (upd (σ 7 6) v2.toNatClampNeg (σ 7 6 v1.toNatClampNeg))) (fun σ1 => gd (ib v1 6) (gd (ib v2 6) (lt (upA σ1 7 7 (upd (σ1 7 7) v2.toNatClampNeg (σ1 7 7 v1.toNatClampNeg))) (fun σ2 => gd (ib v1 6) (gd (ib v2 6) (lt (upA σ2 7 8 (upd (σ2 7 8) v2.toNatClampNeg (σ2 7 8 v1.toNatClampNeg))) (fun σ3 => fM_copy_38 FU σ3 v1 v2 0)))))))))
def fM_copy (σ : Sg) (v1 : Int32) (v2 : Int32) : Option (Sg) := fM_copy_0 σ  v1 v2
def fM_places_0 (σ : Sg) (v1 : Int32) : Option (Int32) :=
  gd (ib v1 48) (gd (ib v1 48) (gd (ib v1 48) (some (((σ 7 11 v1.toNatClampNeg) * (σ 7 12 v1.toNatClampNeg)) * (σ 7 13 v1.toNatClampNeg)))))
def fM_places (σ : Sg) (v1 : Int32) : Option (Int32) := fM_places_0 σ  v1
def fM_isRoom_0 (σ : Sg) (v1 : Int32) : Option (Int32) :=
  gd (ib 0 6) (bp (fM_in σ v1 0 ((σ 7 7 (0 : Int32).toNatClampNeg) - 1)) (fun y1 => gd (isb y1) (some y1)))
def fM_isRoom (σ : Sg) (v1 : Int32) : Option (Int32) := fM_isRoom_0 σ  v1
def fM_isPlace_0 (σ : Sg) (v1 : Int32) (v2 : Int32) : Option (Int32) :=
  bp (fM_places σ v1) (fun y1 => bp (fM_in σ v2 0 (y1 - 1)) (fun y2 => gd (isb y2) (some y2)))
def fM_isPlace (σ : Sg) (v1 : Int32) (v2 : Int32) : Option (Int32) := fM_isPlace_0 σ  v1 v2
def fM_rowOf_0 (σ : Sg) (v1 : Int32) (v2 : Int32) : Option (Int32) :=
  gd (ib v1 48) (gd (nzi (σ 7 11 v1.toNatClampNeg)) (some ((30 * v1) + (v2 / (σ 7 11 v1.toNatClampNeg)))))
def fM_rowOf (σ : Sg) (v1 : Int32) (v2 : Int32) : Option (Int32) := fM_rowOf_0 σ  v1 v2
def fM_isLaid_0 (σ : Sg) (v1 : Int32) (v2 : Int32) : Option (Int32) :=
  bp (fM_rowOf σ v1 v2) (fun y1 => gd (ib y1 1440) (gd (isb (σ 7 17 y1.toNatClampNeg)) (some (σ 7 17 y1.toNatClampNeg))))
def fM_isLaid (σ : Sg) (v1 : Int32) (v2 : Int32) : Option (Int32) := fM_isLaid_0 σ  v1 v2
def fM_floor_0 (σ : Sg) (v1 : Int32) : Option (Int32) :=
  gd (ib v1 48) (gd (ib v1 48) (some ((σ 7 11 v1.toNatClampNeg) * (σ 7 12 v1.toNatClampNeg))))
def fM_floor (σ : Sg) (v1 : Int32) : Option (Int32) := fM_floor_0 σ  v1
def fM_layerOf_0 (σ : Sg) (v1 : Int32) (v2 : Int32) : Option (Int32) :=
  bp (fM_floor σ v1) (fun y1 => gd (nzi y1) (some (v2 / y1)))
def fM_layerOf (σ : Sg) (v1 : Int32) (v2 : Int32) : Option (Int32) := fM_layerOf_0 σ  v1 v2
def fM_at_0 (σ : Sg) (v1 : Int32) (v2 : Int32) : Option (Int32) :=
  gd (ib ((180 * v1) + v2) 8640) (some (σ 7 18 ((180 * v1) + v2).toNatClampNeg))
def fM_at (σ : Sg) (v1 : Int32) (v2 : Int32) : Option (Int32) := fM_at_0 σ  v1 v2
def fM_side_95 (σ : Sg) (x1 : Int32) (x2 : Int32) (x4 : Int32) (x5 : Int32) (x6 : Int32) (x7 : Int32) (x8 : Int32) (x9 : Int32) (t0 : Int32) : Option (Int32) :=
  bp (fM_in σ (x5 + x8) 0 (x4 - 1)) (fun y8 => (if y8 = 0 then some 0 else gd (ib x1 48) (bp (fM_in σ (x6 + x9) 0 ((σ 7 12 x1.toNatClampNeg) - 1)) (fun y9 => (if y9 = 0 then some 0 else gd (ib x1 48) (bp (fM_in σ (x7 + t0) 0 ((σ 7 13 x1.toNatClampNeg) - 1)) (fun y10 => (if y10 = 0 then some 0 else gd (ib x1 48) (bp (fM_at σ x1 ((x2 + x8) + (x4 * (x9 + ((σ 7 12 x1.toNatClampNeg) * t0))))) (fun y11 => some y11))))))))))
def fM_side_74 (σ : Sg) (x1 : Int32) (x2 : Int32) (x3 : Int32) (x4 : Int32) (x5 : Int32) (x6 : Int32) (x7 : Int32) (x8 : Int32) (t0 : Int32) : Option (Int32) :=
  if x3 = 4 then fM_side_95 σ x1 x2 x4 x5 x6 x7 x8 t0 ((-1)) else if x3 = 5 then fM_side_95 σ x1 x2 x4 x5 x6 x7 x8 t0 1 else fM_side_95 σ x1 x2 x4 x5 x6 x7 x8 t0 0
def fM_side_53 (σ : Sg) (x1 : Int32) (x2 : Int32) (x3 : Int32) (x4 : Int32) (x5 : Int32) (x6 : Int32) (x7 : Int32) (t0 : Int32) : Option (Int32) :=
  if x3 = 2 then fM_side_74 σ x1 x2 x3 x4 x5 x6 x7 t0 ((-1)) else if x3 = 3 then fM_side_74 σ x1 x2 x3 x4 x5 x6 x7 t0 1 else fM_side_74 σ x1 x2 x3 x4 x5 x6 x7 t0 0
def fM_side_0 (σ : Sg) (v1 : Int32) (v2 : Int32) (v3 : Int32) : Option (Int32) :=
  gd (ib v1 48) (lt (σ 7 11 v1.toNatClampNeg) (fun y1 => gd (nzi y1) (lt (v2 - v2 / y1 * y1) (fun y3 => gd (nzi y1) (gd (ib v1 48) (gd (nzi (σ 7 12 v1.toNatClampNeg)) (lt ((v2 / y1) - (v2 / y1) / (σ 7 12 v1.toNatClampNeg) * (σ 7 12 v1.toNatClampNeg)) (fun y6 => bp (fM_layerOf σ v1 v2) (fun y7 => (if v3 = 0 then fM_side_53 σ v1 v2 v3 y1 y3 y6 y7 ((-1)) else if v3 = 1 then fM_side_53 σ v1 v2 v3 y1 y3 y6 y7 1 else fM_side_53 σ v1 v2 v3 y1 y3 y6 y7 0))))))))))
def fM_side (σ : Sg) (v1 : Int32) (v2 : Int32) (v3 : Int32) : Option (Int32) := fM_side_0 σ  v1 v2 v3
def fM_sides_60 (k6 : Int32 → Int32 → Int32 → Int32 → Int32 → Option (Int32)) (σ : Sg) (x1 : Int32) (x2 : Int32) (x3 : Int32) (x5 : Int32) (t0 : Int32) (t1 : Int32) : Option (Int32) :=
  lt (t1 + t0) (fun y2 => lt (x5 + 1) (fun y3 => k6 x1 x2 x3 y2 y3))
def fM_sides_45 (k6 : Int32 → Int32 → Int32 → Int32 → Int32 → Option (Int32)) (σ : Sg) (x1 : Int32) (x2 : Int32) (x3 : Int32) (x4 : Int32) (x5 : Int32) (t0 : Int32) : Option (Int32) :=
  if t0 = x3 then fM_sides_60 k6 σ x1 x2 x3 x5 1 x4 else fM_sides_60 k6 σ x1 x2 x3 x5 0 x4
def fM_sides_6_b (k6 : Int32 → Int32 → Int32 → Int32 → Int32 → Option (Int32)) (σ : Sg) (x1 : Int32) (x2 : Int32) (x3 : Int32) (x4 : Int32) (x5 : Int32) : Option (Int32) :=
  if 6 ≤ x5 then some x4 else bp (fM_side σ x1 x2 x5) (fun y1 => (if y1 < 10 then if y1 = 1 then fM_sides_45 k6 σ x1 x2 x3 x4 x5 1 else fM_sides_45 k6 σ x1 x2 x3 x4 x5 0 else fM_sides_45 k6 σ x1 x2 x3 x4 x5 2))
def fM_sides_6 (n : Nat) (σ : Sg) (x1 : Int32) (x2 : Int32) (x3 : Int32) (x4 : Int32) (x5 : Int32) : Option (Int32) := match n with
  | 0 => none
  | n + 1 => fM_sides_6_b  (fun x1 x2 x3 x4 x5 => fM_sides_6  n σ  x1 x2 x3 x4 x5) σ  x1 x2 x3 x4 x5
def fM_sides_0 (σ : Sg) (v1 : Int32) (v2 : Int32) (v3 : Int32) : Option (Int32) :=
  fM_sides_6 FU σ v1 v2 v3 0 0
def fM_sides (σ : Sg) (v1 : Int32) (v2 : Int32) (v3 : Int32) : Option (Int32) := fM_sides_0 σ  v1 v2 v3
def fM_room_62 (σ : Sg) : Option (Int32 × Sg) :=
  bi (fM_ends σ ((-1))) (fun y23 σ24 => some (y23, σ24))
def fM_room_185_b (k185 : Sg → Int32 → Int32 → Option (Int32 × Sg)) (σ : Sg) (x6 : Int32) (x7 : Int32) : Option (Int32 × Sg) :=
  if 180 ≤ x7 then gd (ib 0 6) (gd (ib 0 6) (lt (upA σ 7 7 (upd (σ 7 7) (0 : Int32).toNatClampNeg ((σ 7 7 (0 : Int32).toNatClampNeg) + 1))) (fun σ18 => bi (fM_ends σ18 x6) (fun y19 σ20 => some (y19, σ20))))) else gd (ib ((180 * x6) + x7) 8640) (lt (upA σ 7 18 (upd (σ 7 18) ((180 * x6) + x7).toNatClampNeg 0)) (fun σ21 => lt (x7 + 1) (fun y22 => k185 σ21 x6 y22)))
def fM_room_185 (n : Nat) (σ : Sg) (x6 : Int32) (x7 : Int32) : Option (Int32 × Sg) := match n with
  | 0 => none
  | n + 1 => fM_room_185_b  (fun σ x6 x7 => fM_room_185  n σ  x6 x7) σ  x6 x7
def fM_room_155_b (k155 : Sg → Int32 → Int32 → Option (Int32 × Sg)) (σ : Sg) (x6 : Int32) (x7 : Int32) : Option (Int32 × Sg) :=
  if 30 ≤ x7 then fM_room_185 FU σ x6 0 else gd (ib ((30 * x6) + x7) 1440) (lt (upA σ 7 17 (upd (σ 7 17) ((30 * x6) + x7).toNatClampNeg (vp_nar .boolean 0))) (fun σ16 => lt (x7 + 1) (fun y17 => k155 σ16 x6 y17)))
def fM_room_155 (n : Nat) (σ : Sg) (x6 : Int32) (x7 : Int32) : Option (Int32 × Sg) := match n with
  | 0 => none
  | n + 1 => fM_room_155_b  (fun σ x6 x7 => fM_room_155  n σ  x6 x7) σ  x6 x7
def fM_room_68 (σ : Sg) (x1 : Int32) (x2 : Int32) (x3 : Int32) (x4 : Int32) (x5 : Int32) : Option (Int32 × Sg) :=
  gd (ib 0 6) ((if (σ 7 7 (0 : Int32).toNatClampNeg) = 8 then bi (fM_ends σ ((-6))) (fun y14 σ15 => some (y14, σ15)) else gd (ib 0 6) (lt (σ 7 7 (0 : Int32).toNatClampNeg) (fun y6 => gd (ib y6 48) (lt (upA σ 7 10 (upd (σ 7 10) y6.toNatClampNeg x1)) (fun σ7 => gd (ib y6 48) (lt (upA σ7 7 11 (upd (σ7 7 11) y6.toNatClampNeg x2)) (fun σ8 => gd (ib y6 48) (lt (upA σ8 7 12 (upd (σ8 7 12) y6.toNatClampNeg x3)) (fun σ9 => gd (ib y6 48) (lt (upA σ9 7 13 (upd (σ9 7 13) y6.toNatClampNeg x4)) (fun σ10 => gd (ib y6 48) (lt (upA σ10 7 14 (upd (σ10 7 14) y6.toNatClampNeg x5)) (fun σ11 => gd (ib y6 48) (lt (upA σ11 7 15 (upd (σ11 7 15) y6.toNatClampNeg 0)) (fun σ12 => gd (ib y6 48) (lt (upA σ12 7 16 (upd (σ12 7 16) y6.toNatClampNeg 0)) (fun σ13 => fM_room_155 FU σ13 y6 0))))))))))))))))))
def fM_room_0 (σ : Sg) (v1 : Int32) (v2 : Int32) (v3 : Int32) (v4 : Int32) (v5 : Int32) : Option (Int32 × Sg) :=
  bp (fM_in σ v1 0 5) (fun y1 => (if y1 = 0 then fM_room_62 σ else bp (fM_in σ v2 1 6) (fun y2 => (if y2 = 0 then fM_room_62 σ else bp (fM_in σ v3 1 6) (fun y3 => (if y3 = 0 then fM_room_62 σ else bp (fM_in σ v4 1 5) (fun y4 => (if y4 = 0 then fM_room_62 σ else if v1 = 2 then bp (fM_isRoom σ v5) (fun y5 => (if y5 = 0 then fM_room_62 σ else fM_room_68 σ v1 v2 v3 v4 v5)) else if v5 = ((-1)) then fM_room_68 σ v1 v2 v3 v4 v5 else fM_room_62 σ))))))))
def fM_room (σ : Sg) (v1 : Int32) (v2 : Int32) (v3 : Int32) (v4 : Int32) (v5 : Int32) : Option (Int32 × Sg) := fM_room_0 σ  v1 v2 v3 v4 v5
def fM_countOf_49 (k5 : Int32 → Int32 → Int32 → Int32 → Option (Int32)) (σ : Sg) (x1 : Int32) (x2 : Int32) (x4 : Int32) (t0 : Int32) (t1 : Int32) : Option (Int32) :=
  lt (t1 + t0) (fun y1 => lt (x4 + 1) (fun y2 => k5 x1 x2 y1 y2))
def fM_countOf_44 (k5 : Int32 → Int32 → Int32 → Int32 → Option (Int32)) (σ : Sg) (x1 : Int32) (x2 : Int32) (x4 : Int32) (t0 : Int32) : Option (Int32) :=
  fM_countOf_49 k5 σ x1 x2 x4 1 t0
def fM_countOf_48 (k5 : Int32 → Int32 → Int32 → Int32 → Option (Int32)) (σ : Sg) (x1 : Int32) (x2 : Int32) (x4 : Int32) (t0 : Int32) : Option (Int32) :=
  fM_countOf_49 k5 σ x1 x2 x4 0 t0
def fM_countOf_5_b (k5 : Int32 → Int32 → Int32 → Int32 → Option (Int32)) (σ : Sg) (x1 : Int32) (x2 : Int32) (x3 : Int32) (x4 : Int32) : Option (Int32) :=
  gd (ib 0 6) ((if (σ 7 8 (0 : Int32).toNatClampNeg) ≤ x4 then some x3 else gd (ib x4 1800) ((if (σ 7 21 x4.toNatClampNeg) = x1 then if x2 = ((-1)) then fM_countOf_44 k5 σ x1 x2 x4 x3 else gd (ib x4 1800) ((if (σ 7 19 x4.toNatClampNeg) = x2 then fM_countOf_44 k5 σ x1 x2 x4 x3 else fM_countOf_48 k5 σ x1 x2 x4 x3)) else fM_countOf_48 k5 σ x1 x2 x4 x3))))
def fM_countOf_5 (n : Nat) (σ : Sg) (x1 : Int32) (x2 : Int32) (x3 : Int32) (x4 : Int32) : Option (Int32) := match n with
  | 0 => none
  | n + 1 => fM_countOf_5_b  (fun x1 x2 x3 x4 => fM_countOf_5  n σ  x1 x2 x3 x4) σ  x1 x2 x3 x4
def fM_countOf_0 (σ : Sg) (v1 : Int32) (v2 : Int32) : Option (Int32) :=
  fM_countOf_5 FU σ v1 v2 0 0
def fM_countOf (σ : Sg) (v1 : Int32) (v2 : Int32) : Option (Int32) := fM_countOf_0 σ  v1 v2
def fM_warmthOf_16 (σ : Sg) (x3 : Int32) : Option (Int32) :=
  some ((x3 + 80) / 2)
def fM_warmthOf_0 (σ : Sg) (v1 : Int32) (v2 : Int32) : Option (Int32) :=
  bp (fM_tenthsOf σ v2) (fun y1 => (if v1 = 1 then fM_warmthOf_16 σ y1 else if v1 = 5 then fM_warmthOf_16 σ y1 else if v1 = 3 then some (y1 + 10) else if v1 = 4 then some (y1 + 30) else some y1))
def fM_warmthOf (σ : Sg) (v1 : Int32) (v2 : Int32) : Option (Int32) := fM_warmthOf_0 σ  v1 v2

def fI_day_38 (lv : Nat → Bool) (σ : Sg) : Option (Int32 × Sg × (Nat → Bool)) :=
  bp (fI_tenthsToday σ) (fun y5 => bp (fMelting_weigh σ 0 y5) (fun σ6 => gd (lv 8) (bp (fBook_write σ6 0) (fun σ8 => bi (fMelting_passDay σ8 0) (fun y9 σ10 => bi (fI_answer σ10 y9) (fun y11 σ12 => some (y11, σ12, lv)))))))
def fI_day_0 (lv : Nat → Bool) (σ : Sg) : Option (Int32 × Sg × (Nat → Bool)) :=
  if (σ 0 0 0) < 199 then if lv 8 = true then fI_day_38 lv σ else mk2 (zap σ 8) (setL lv 8) (fun σ2 lv => fI_day_38 lv σ2) else bi (fI_answer σ ((-7))) (fun y3 σ4 => some (y3, σ4, lv))
def fI_day (lv : Nat → Bool) (σ : Sg) : Option (Int32 × Sg × (Nat → Bool)) := fI_day_0 lv σ  
def fI_foretell_22 (lv : Nat → Bool) (σ : Sg) : Option (Int32 × Sg × (Nat → Bool)) :=
  bi (fI_answer σ ((-1))) (fun y24 σ25 => some (y24, σ25, lv))
def fI_foretell_140 (lv : Nat → Bool) (k88 : Sg → Int32 → Int32 → Int32 → Option (Int32 × Sg × (Nat → Bool))) (σ : Sg) (x1 : Int32) (x2 : Int32) (x3 : Int32) (t0 : Int32) : Option (Int32 × Sg × (Nat → Bool)) :=
  bp (fCalendar_tenthsOf σ t0) (fun y13 => bp (fMelting_weigh σ 1 y13) (fun σ14 => gd (lv 1) (bi (fMelting_passDay σ14 1) (fun y16 σ17 => gd (lv 9) (bp (fForecast_note σ17 1) (fun σ19 => lt (x3 + 1) (fun y20 => k88 σ19 x1 x2 y20)))))))
def fI_foretell_175 (lv : Nat → Bool) (σ : Sg) : Option (Int32 × Sg × (Nat → Bool)) :=
  gd (lv 9) (bi (fI_answer σ (σ 9 0 0)) (fun y22 σ23 => some (y22, σ23, lv)))
def fI_foretell_88_b (lv : Nat → Bool) (k88 : Sg → Int32 → Int32 → Int32 → Option (Int32 × Sg × (Nat → Bool))) (σ : Sg) (x1 : Int32) (x2 : Int32) (x3 : Int32) : Option (Int32 × Sg × (Nat → Bool)) :=
  if x1 ≤ x3 then fI_foretell_175 lv σ else gd (lv 1) ((if 199 ≤ (σ 1 0 0) then fI_foretell_175 lv σ else lt ((σ 1 0 0) - x2) (fun y12 => (if 0 ≤ y12 then fI_foretell_140 lv k88 σ x1 x2 x3 y12 else fI_foretell_140 lv k88 σ x1 x2 x3 0))))
def fI_foretell_88 (lv : Nat → Bool) (n : Nat) (σ : Sg) (x1 : Int32) (x2 : Int32) (x3 : Int32) : Option (Int32 × Sg × (Nat → Bool)) := match n with
  | 0 => none
  | n + 1 => fI_foretell_88_b lv (fun σ x1 x2 x3 => fI_foretell_88 lv n σ  x1 x2 x3) σ  x1 x2 x3
def fI_foretell_64 (lv : Nat → Bool) (σ : Sg) (x1 : Int32) (x2 : Int32) : Option (Int32 × Sg × (Nat → Bool)) :=
  gd (lv 1) (bp (fStore_copyFrom σ 1 0) (fun σ8 => gd (lv 9) (bp (fForecast_begin σ8 1) (fun σ10 => fI_foretell_88 lv FU σ10 x1 x2 0))))
def fI_foretell_46 (lv : Nat → Bool) (σ : Sg) (x1 : Int32) (x2 : Int32) : Option (Int32 × Sg × (Nat → Bool)) :=
  if lv 9 = true then fI_foretell_64 lv σ x1 x2 else mk2 (zap σ 9) (setL lv 9) (fun σ6 lv => fI_foretell_64 lv σ6 x1 x2)
def fI_foretell_0 (lv : Nat → Bool) (σ : Sg) (v1 : Int32) (v2 : Int32) : Option (Int32 × Sg × (Nat → Bool)) :=
  bp (fI_within σ v1 1 200) (fun y1 => (if y1 = 0 then fI_foretell_22 lv σ else bp (fI_within σ v2 0 199) (fun y2 => (if y2 = 0 then fI_foretell_22 lv σ else if lv 1 = true then fI_foretell_46 lv σ v1 v2 else mk2 (zap σ 1) (setL lv 1) (fun σ4 lv => fI_foretell_46 lv σ4 v1 v2)))))
def fI_foretell (lv : Nat → Bool) (σ : Sg) (v1 : Int32) (v2 : Int32) : Option (Int32 × Sg × (Nat → Bool)) := fI_foretell_0 lv σ  v1 v2
def fI_pack_67 (lv : Nat → Bool) (σ : Sg) : Option (Int32 × Sg × (Nat → Bool)) :=
  bi (fI_answer σ ((-6))) (fun y17 σ18 => some (y17, σ18, lv))
def fI_pack_112 (lv : Nat → Bool) (σ : Sg) : Option (Int32 × Sg × (Nat → Bool)) :=
  bi (fI_answer σ ((-7))) (fun y15 σ16 => some (y15, σ16, lv))
def fI_pack_137 (lv : Nat → Bool) (σ : Sg) (x1 : Int32) : Option (Int32 × Sg × (Nat → Bool)) :=
  gd (lv 10) (bp (fPacker_choose σ 0 x1 (σ 6 4 0)) (fun σ9 => bp (fI_cutHeapInto lv σ9 x1) (fun σ10 => bi (fMelting_airSidesIn σ10 0 x1) (fun y11 σ12 => bi (fI_answer σ12 y11) (fun y13 σ14 => some (y13, σ14, lv))))))
def fI_pack_0 (lv : Nat → Bool) (σ : Sg) (v1 : Int32) : Option (Int32 × Sg × (Nat → Bool)) :=
  bp (fRooms_has σ 0 v1) (fun y1 => (if y1 = 0 then bi (fI_answer σ ((-2))) (fun y6 σ7 => some (y6, σ7, lv)) else gd (ib v1 8) ((if (σ 0 8 v1.toNatClampNeg) < (σ 6 4 0) then fI_pack_67 lv σ else if (σ 6 4 0) ≤ (300 - (σ 0 15 0)) then if (σ 6 4 0) = 0 then fI_pack_112 lv σ else bp (fRooms_isAllLaid σ 0 v1) (fun y2 => (if y2 = 0 then fI_pack_112 lv σ else bp (fRooms_isBare σ 0 v1) (fun y3 => (if y3 = 0 then fI_pack_112 lv σ else if lv 10 = true then fI_pack_137 lv σ v1 else mk2 (zap σ 10) (setL lv 10) (fun σ5 lv => fI_pack_137 lv σ5 v1))))) else fI_pack_67 lv σ))))
def fI_pack (lv : Nat → Bool) (σ : Sg) (v1 : Int32) : Option (Int32 × Sg × (Nat → Bool)) := fI_pack_0 lv σ  v1
def fI_image_37 (lv : Nat → Bool) (σ : Sg) (x1 : Int32) : Option (Int32 × Sg × (Nat → Bool)) :=
  gd (ib x1 4) (gd (lv (2 + x1.toNatClampNeg)) (bp (fStore_copyFrom σ (2 + x1.toNatClampNeg) 0) (fun σ10 => bi (fI_answer σ10 0) (fun y11 σ12 => some (y11, σ12, lv)))))
def fI_image_0 (lv : Nat → Bool) (σ : Sg) (v1 : Int32) : Option (Int32 × Sg × (Nat → Bool)) :=
  bp (fI_within σ v1 0 3) (fun y1 => (if y1 = 0 then bi (fI_answer σ ((-1))) (fun y6 σ7 => some (y6, σ7, lv)) else gd (ib v1 4) ((if lv (2 + v1.toNatClampNeg) = true then fI_image_37 lv σ v1 else gd (ib v1 4) (mk2 (zap σ (2 + v1.toNatClampNeg)) (setL lv (2 + v1.toNatClampNeg)) (fun σ4 lv => fI_image_37 lv σ4 v1))))))
def fI_image (lv : Nat → Bool) (σ : Sg) (v1 : Int32) : Option (Int32 × Sg × (Nat → Bool)) := fI_image_0 lv σ  v1

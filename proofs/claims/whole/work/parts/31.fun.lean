def fM_warmth_5_b (k5 : Int32 → Int32 → Int32 → Option (Int32)) (σ : Sg) (x2 : Int32) (x3 : Int32) (x4 : Int32) : Option (Int32) :=
  gd (ib x3 48) ((if (σ 7 10 x3.toNatClampNeg) = 2 then bp (fM_countOf σ x3 2) (fun y4 => lt (x4 + (2 * y4)) (fun y5 => gd (ib x3 48) (lt (σ 7 14 x3.toNatClampNeg) (fun y6 => k5 x2 y6 y5)))) else bp (fM_countOf σ x3 2) (fun y1 => lt (x4 + (2 * y1)) (fun y2 => gd (ib x3 48) (bp (fM_warmthOf σ (σ 7 10 x3.toNatClampNeg) x2) (fun y3 => some (y3 - y2)))))))
def fM_warmth_5 (n : Nat) (σ : Sg) (x2 : Int32) (x3 : Int32) (x4 : Int32) : Option (Int32) := match n with
  | 0 => none
  | n + 1 => fM_warmth_5_b  (fun x2 x3 x4 => fM_warmth_5  n σ  x2 x3 x4) σ  x2 x3 x4
def fM_warmth_0 (σ : Sg) (v1 : Int32) (v2 : Int32) : Option (Int32) :=
  fM_warmth_5 FU σ v2 v1 0
def fM_warmth (σ : Sg) (v1 : Int32) (v2 : Int32) : Option (Int32) := fM_warmth_0 σ  v1 v2
def fM_hasDrain_32 (k4 : Int32 → Int32 → Int32 → Option (Int32)) (σ : Sg) (x1 : Int32) (x3 : Int32) (t0 : Int32) : Option (Int32) :=
  lt (x3 + 1) (fun y4 => k4 x1 t0 y4)
def fM_hasDrain_27 (k4 : Int32 → Int32 → Int32 → Option (Int32)) (σ : Sg) (x1 : Int32) (x3 : Int32) : Option (Int32) :=
  fM_hasDrain_32 k4 σ x1 x3 1
def fM_hasDrain_4_b (k4 : Int32 → Int32 → Int32 → Option (Int32)) (σ : Sg) (x1 : Int32) (x2 : Int32) (x3 : Int32) : Option (Int32) :=
  bp (fM_floor σ x1) (fun y1 => (if y1 ≤ x3 then gd (isb x2) (some x2) else if x2 = 0 then bp (fM_at σ x1 x3) (fun y3 => (if y3 = 2 then fM_hasDrain_27 k4 σ x1 x3 else fM_hasDrain_32 k4 σ x1 x3 0)) else fM_hasDrain_27 k4 σ x1 x3))
def fM_hasDrain_4 (n : Nat) (σ : Sg) (x1 : Int32) (x2 : Int32) (x3 : Int32) : Option (Int32) := match n with
  | 0 => none
  | n + 1 => fM_hasDrain_4_b  (fun x1 x2 x3 => fM_hasDrain_4  n σ  x1 x2 x3) σ  x1 x2 x3
def fM_hasDrain_0 (σ : Sg) (v1 : Int32) : Option (Int32) :=
  fM_hasDrain_4 FU σ v1 0 0
def fM_hasDrain (σ : Sg) (v1 : Int32) : Option (Int32) := fM_hasDrain_0 σ  v1
def fM_isInWater_0 (σ : Sg) (v1 : Int32) (v2 : Int32) : Option (Int32) :=
  gd (ib v1 48) ((if (σ 7 10 v1.toNatClampNeg) = 5 then bp (fM_layerOf σ v1 v2) (fun y1 => (if y1 = 0 then bp (fM_hasDrain σ v1) (fun y2 => (if y2 = 0 then some 1 else some 0)) else some 0)) else some 0))
def fM_isInWater (σ : Sg) (v1 : Int32) (v2 : Int32) : Option (Int32) := fM_isInWater_0 σ  v1 v2
def fM_loss_101 (σ : Sg) (x1 : Int32) (t0 : Int32) (t1 : Int32) : Option (Int32) :=
  lt (t1 + t0) (fun y7 => gd (ib x1 1800) ((if (σ 7 20 x1.toNatClampNeg) ≤ y7 then gd (ib x1 1800) (some (σ 7 20 x1.toNatClampNeg)) else some y7)))
def fM_loss_50 (σ : Sg) (x1 : Int32) (x3 : Int32) (x4 : Int32) (t0 : Int32) : Option (Int32) :=
  bp (fM_sides σ x3 x4 0) (fun y4 => bp (fM_sides σ x3 x4 1) (fun y5 => bp (fM_isInWater σ x3 x4) (fun y6 => (if y6 = 0 then fM_loss_101 σ x1 0 ((y4 * t0) + (y5 * ((t0 * (σ 7 0 3)) / 100))) else fM_loss_101 σ x1 (σ 7 0 4) ((y4 * t0) + (y5 * ((t0 * (σ 7 0 3)) / 100)))))))
def fM_loss_43 (σ : Sg) (x1 : Int32) (x3 : Int32) (x4 : Int32) (x5 : Int32) (t0 : Int32) : Option (Int32) :=
  fM_loss_50 σ x1 x3 x4 (t0 * x5)
def fM_loss_0 (σ : Sg) (v1 : Int32) (v2 : Int32) : Option (Int32) :=
  gd (ib v1 1800) (lt (σ 7 21 v1.toNatClampNeg) (fun y1 => gd (ib v1 1800) (lt (σ 7 22 v1.toNatClampNeg) (fun y2 => bp (fM_warmth σ y1 v2) (fun y3 => (if y3 ≤ 0 then fM_loss_50 σ v1 y1 y2 0 else gd (ib v1 1800) ((if (σ 7 19 v1.toNatClampNeg) = 2 then fM_loss_43 σ v1 y1 y2 y3 5 else fM_loss_43 σ v1 y1 y2 y3 3))))))))
def fM_loss (σ : Sg) (v1 : Int32) (v2 : Int32) : Option (Int32) := fM_loss_0 σ  v1 v2
def fM_isFree_0 (σ : Sg) (v1 : Int32) : Option (Int32) :=
  gd (ib v1 1800) (gd (ib v1 1800) (bp (fM_side σ (σ 7 21 v1.toNatClampNeg) (σ 7 22 v1.toNatClampNeg) 5) (fun y1 => (if 10 ≤ y1 then some 0 else some 1))))
def fM_isFree (σ : Sg) (v1 : Int32) : Option (Int32) := fM_isFree_0 σ  v1
def fM_weight_49 (k4 : Int32 → Int32 → Int32 → Option (Int32)) (σ : Sg) (x1 : Int32) (x3 : Int32) (t0 : Int32) (t1 : Int32) : Option (Int32) :=
  lt (t1 + t0) (fun y1 => lt (x3 + 1) (fun y2 => k4 x1 y1 y2))
def fM_weight_39 (k4 : Int32 → Int32 → Int32 → Option (Int32)) (σ : Sg) (x1 : Int32) (x3 : Int32) (t0 : Int32) : Option (Int32) :=
  gd (ib x3 1800) (fM_weight_49 k4 σ x1 x3 (σ 7 20 x3.toNatClampNeg) t0)
def fM_weight_48 (k4 : Int32 → Int32 → Int32 → Option (Int32)) (σ : Sg) (x1 : Int32) (x3 : Int32) (t0 : Int32) : Option (Int32) :=
  fM_weight_49 k4 σ x1 x3 0 t0
def fM_weight_4_b (k4 : Int32 → Int32 → Int32 → Option (Int32)) (σ : Sg) (x1 : Int32) (x2 : Int32) (x3 : Int32) : Option (Int32) :=
  gd (ib 0 6) ((if (σ 7 8 (0 : Int32).toNatClampNeg) ≤ x3 then some x2 else gd (ib x3 1800) ((if (σ 7 21 x3.toNatClampNeg) < 0 then fM_weight_48 k4 σ x1 x3 x2 else if x1 = ((-1)) then fM_weight_39 k4 σ x1 x3 x2 else gd (ib x3 1800) ((if (σ 7 21 x3.toNatClampNeg) = x1 then fM_weight_39 k4 σ x1 x3 x2 else fM_weight_48 k4 σ x1 x3 x2))))))
def fM_weight_4 (n : Nat) (σ : Sg) (x1 : Int32) (x2 : Int32) (x3 : Int32) : Option (Int32) := match n with
  | 0 => none
  | n + 1 => fM_weight_4_b  (fun x1 x2 x3 => fM_weight_4  n σ  x1 x2 x3) σ  x1 x2 x3
def fM_weight_0 (σ : Sg) (v1 : Int32) : Option (Int32) :=
  fM_weight_4 FU σ v1 0 0
def fM_weight (σ : Sg) (v1 : Int32) : Option (Int32) := fM_weight_0 σ  v1
def fM_rooms_220 (k159 : Int32 → Int32 → Int32 → Int32 → Option (Int32)) (σ : Sg) (x1 : Int32) (x2 : Int32) (x3 : Int32) (x4 : Int32) : Option (Int32) :=
  lt (x4 + 1) (fun y9 => k159 x1 x2 x3 y9)
def fM_rooms_218 (k159 : Int32 → Int32 → Int32 → Int32 → Option (Int32)) (σ : Sg) (x1 : Int32) (x2 : Int32) (x4 : Int32) (t0 : Int32) (t1 : Int32) : Option (Int32) :=
  lt (t1 + t0) (fun y8 => fM_rooms_220 k159 σ x1 x2 y8 x4)
def fM_rooms_159_b (k159 : Int32 → Int32 → Int32 → Int32 → Option (Int32)) (σ : Sg) (x1 : Int32) (x2 : Int32) (x3 : Int32) (x4 : Int32) : Option (Int32) :=
  gd (ib 0 6) ((if (σ 7 8 (0 : Int32).toNatClampNeg) ≤ x4 then some x3 else gd (ib x4 1800) ((if (σ 7 21 x4.toNatClampNeg) = x1 then if x2 = 10 then gd (ib x4 1800) (bp (fM_sides σ x1 (σ 7 22 x4.toNatClampNeg) 0) (fun y7 => fM_rooms_218 k159 σ x1 x2 x4 y7 x3)) else bp (fM_isFree σ x4) (fun y6 => (if y6 = 0 then fM_rooms_218 k159 σ x1 x2 x4 0 x3 else fM_rooms_218 k159 σ x1 x2 x4 1 x3)) else fM_rooms_220 k159 σ x1 x2 x3 x4))))
def fM_rooms_159 (n : Nat) (σ : Sg) (x1 : Int32) (x2 : Int32) (x3 : Int32) (x4 : Int32) : Option (Int32) := match n with
  | 0 => none
  | n + 1 => fM_rooms_159_b  (fun x1 x2 x3 x4 => fM_rooms_159  n σ  x1 x2 x3 x4) σ  x1 x2 x3 x4
def fM_rooms_0 (σ : Sg) (v1 : Int32) (v2 : Int32) : Option (Int32) :=
  bp (fM_in σ v2 0 11) (fun y1 => (if y1 = 0 then some ((-1)) else bp (fM_isRoom σ v1) (fun y2 => (if y2 = 0 then some ((-2)) else if v2 = 0 then gd (ib v1 48) (some (σ 7 10 v1.toNatClampNeg)) else (if v2 = 1 then gd (ib v1 48) (some (σ 7 11 v1.toNatClampNeg)) else (if v2 = 2 then gd (ib v1 48) (some (σ 7 12 v1.toNatClampNeg)) else (if v2 = 3 then gd (ib v1 48) (some (σ 7 13 v1.toNatClampNeg)) else (if v2 = 4 then gd (ib v1 48) (some (σ 7 14 v1.toNatClampNeg)) else (if v2 = 5 then gd (ib 0 6) (bp (fM_warmth σ v1 (σ 7 6 (0 : Int32).toNatClampNeg)) (fun y3 => some y3)) else (if v2 = 6 then bp (fM_countOf σ v1 ((-1))) (fun y4 => some y4) else (if v2 = 7 then bp (fM_weight σ v1) (fun y5 => some y5) else (if v2 = 8 then gd (ib v1 48) (some (σ 7 15 v1.toNatClampNeg)) else (if v2 = 9 then gd (ib v1 48) (some (σ 7 16 v1.toNatClampNeg)) else (fM_rooms_159 FU σ v1 v2 0 0))))))))))))))
def fM_rooms (σ : Sg) (v1 : Int32) (v2 : Int32) : Option (Int32) := fM_rooms_0 σ  v1 v2
def fM_lineOf_0 (σ : Sg) (v1 : Int32) (v2 : Int32) (v3 : Int32) : Option (Int32) :=
  gd (ib v1 48) (some (((30 * v1) + v3) + ((σ 7 12 v1.toNatClampNeg) * v2)))
def fM_lineOf (σ : Sg) (v1 : Int32) (v2 : Int32) (v3 : Int32) : Option (Int32) := fM_lineOf_0 σ  v1 v2 v3
def fM_lay_47 (σ : Sg) : Option (Int32 × Sg) :=
  bi (fM_ends σ ((-1))) (fun y12 σ13 => some (y12, σ13))
def fM_lay_93 (σ : Sg) : Option (Int32 × Sg) :=
  bi (fM_ends σ ((-7))) (fun y10 σ11 => some (y10, σ11))
def fM_lay_100 (σ : Sg) (x4 : Int32) : Option (Int32 × Sg) :=
  gd (ib x4 1440) (lt (upA σ 7 17 (upd (σ 7 17) x4.toNatClampNeg (vp_nar .boolean 1))) (fun σ7 => bi (fM_ends σ7 0) (fun y8 σ9 => some (y8, σ9))))
def fM_lay_0 (σ : Sg) (v1 : Int32) (v2 : Int32) (v3 : Int32) : Option (Int32 × Sg) :=
  bp (fM_isRoom σ v1) (fun y1 => (if y1 = 0 then bi (fM_ends σ ((-2))) (fun y5 σ6 => some (y5, σ6)) else gd (ib v1 48) (bp (fM_in σ v2 0 ((σ 7 13 v1.toNatClampNeg) - 1)) (fun y2 => (if y2 = 0 then fM_lay_47 σ else gd (ib v1 48) (bp (fM_in σ v3 0 ((σ 7 12 v1.toNatClampNeg) - 1)) (fun y3 => (if y3 = 0 then fM_lay_47 σ else bp (fM_lineOf σ v1 v2 v3) (fun y4 => gd (ib y4 1440) ((if (σ 7 17 y4.toNatClampNeg) = 0 then if v2 ≤ 0 then fM_lay_100 σ y4 else gd (ib v1 48) (gd (ib (y4 - (σ 7 12 v1.toNatClampNeg)) 1440) ((if (σ 7 17 (y4 - (σ 7 12 v1.toNatClampNeg)).toNatClampNeg) = 0 then fM_lay_93 σ else fM_lay_100 σ y4))) else fM_lay_93 σ)))))))))))
def fM_lay (σ : Sg) (v1 : Int32) (v2 : Int32) (v3 : Int32) : Option (Int32 × Sg) := fM_lay_0 σ  v1 v2 v3
def fM_tear_47 (σ : Sg) : Option (Int32 × Sg) :=
  bi (fM_ends σ ((-1))) (fun y16 σ17 => some (y16, σ17))
def fM_tear_167 (k118 : Sg → Int32 → Int32 → Int32 → Int32 → Int32 → Int32 → Option (Int32 × Sg)) (σ : Sg) (x1 : Int32) (x2 : Int32) (x3 : Int32) (x4 : Int32) (x6 : Int32) (t0 : Int32) : Option (Int32 × Sg) :=
  lt (x6 + 1) (fun y15 => k118 σ x1 x2 x3 x4 t0 y15)
def fM_tear_162 (k118 : Sg → Int32 → Int32 → Int32 → Int32 → Int32 → Int32 → Option (Int32 × Sg)) (σ : Sg) (x1 : Int32) (x2 : Int32) (x3 : Int32) (x4 : Int32) (x6 : Int32) : Option (Int32 × Sg) :=
  fM_tear_167 k118 σ x1 x2 x3 x4 x6 1
def fM_tear_118_b (k118 : Sg → Int32 → Int32 → Int32 → Int32 → Int32 → Int32 → Option (Int32 × Sg)) (σ : Sg) (x1 : Int32) (x2 : Int32) (x3 : Int32) (x4 : Int32) (x5 : Int32) (x6 : Int32) : Option (Int32 × Sg) :=
  gd (ib x1 48) ((if (σ 7 11 x1.toNatClampNeg) ≤ x6 then if x5 = 0 then gd (ib x4 1440) (lt (upA σ 7 17 (upd (σ 7 17) x4.toNatClampNeg (vp_nar .boolean 0))) (fun σ9 => bi (fM_ends σ9 0) (fun y10 σ11 => some (y10, σ11)))) else bi (fM_ends σ ((-7))) (fun y12 σ13 => some (y12, σ13)) else if x5 = 0 then gd (ib x1 48) (gd (ib x1 48) (bp (fM_at σ x1 (x6 + ((σ 7 11 x1.toNatClampNeg) * (x3 + ((σ 7 12 x1.toNatClampNeg) * x2))))) (fun y14 => (if y14 = 0 then fM_tear_167 k118 σ x1 x2 x3 x4 x6 0 else fM_tear_162 k118 σ x1 x2 x3 x4 x6)))) else fM_tear_162 k118 σ x1 x2 x3 x4 x6))
def fM_tear_118 (n : Nat) (σ : Sg) (x1 : Int32) (x2 : Int32) (x3 : Int32) (x4 : Int32) (x5 : Int32) (x6 : Int32) : Option (Int32 × Sg) := match n with
  | 0 => none
  | n + 1 => fM_tear_118_b  (fun σ x1 x2 x3 x4 x5 x6 => fM_tear_118  n σ  x1 x2 x3 x4 x5 x6) σ  x1 x2 x3 x4 x5 x6
def fM_tear_113 (σ : Sg) (x1 : Int32) (x2 : Int32) (x3 : Int32) (x4 : Int32) (t0 : Int32) : Option (Int32 × Sg) :=
  fM_tear_118 FU σ x1 x2 x3 x4 t0 0
def fM_tear_112 (σ : Sg) (x1 : Int32) (x2 : Int32) (x3 : Int32) (x4 : Int32) : Option (Int32 × Sg) :=
  fM_tear_113 σ x1 x2 x3 x4 0
def fM_tear_0 (σ : Sg) (v1 : Int32) (v2 : Int32) (v3 : Int32) : Option (Int32 × Sg) :=
  bp (fM_isRoom σ v1) (fun y1 => (if y1 = 0 then bi (fM_ends σ ((-2))) (fun y7 σ8 => some (y7, σ8)) else gd (ib v1 48) (bp (fM_in σ v2 0 ((σ 7 13 v1.toNatClampNeg) - 1)) (fun y2 => (if y2 = 0 then fM_tear_47 σ else gd (ib v1 48) (bp (fM_in σ v3 0 ((σ 7 12 v1.toNatClampNeg) - 1)) (fun y3 => (if y3 = 0 then fM_tear_47 σ else bp (fM_lineOf σ v1 v2 v3) (fun y4 => gd (ib y4 1440) ((if (σ 7 17 y4.toNatClampNeg) = 0 then bi (fM_ends σ ((-3))) (fun y5 σ6 => some (y5, σ6)) else gd (ib v1 48) ((if (σ 7 13 v1.toNatClampNeg) ≤ (v2 + 1) then fM_tear_112 σ v1 v2 v3 y4 else gd (ib v1 48) (gd (ib (y4 + (σ 7 12 v1.toNatClampNeg)) 1440) ((if (σ 7 17 (y4 + (σ 7 12 v1.toNatClampNeg)).toNatClampNeg) = 0 then fM_tear_112 σ v1 v2 v3 y4 else fM_tear_113 σ v1 v2 v3 y4 1))))))))))))))))
def fM_tear (σ : Sg) (v1 : Int32) (v2 : Int32) (v3 : Int32) : Option (Int32 × Sg) := fM_tear_0 σ  v1 v2 v3
def fM_unfit_76 (σ : Sg) : Option (Int32) :=
  some 0
def fM_unfit_0 (σ : Sg) (v1 : Int32) (v2 : Int32) : Option (Int32) :=
  bp (fM_isRoom σ v1) (fun y1 => (if y1 = 0 then some ((-2)) else bp (fM_isPlace σ v1 v2) (fun y2 => (if y2 = 0 then some ((-1)) else bp (fM_isLaid σ v1 v2) (fun y3 => (if y3 = 0 then some ((-3)) else bp (fM_at σ v1 v2) (fun y4 => (if y4 = 0 then bp (fM_layerOf σ v1 v2) (fun y5 => (if y5 = 0 then some 0 else bp (fM_side σ v1 v2 4) (fun y6 => (if 10 ≤ y6 then fM_unfit_76 σ else if y6 = 1 then fM_unfit_76 σ else some ((-5)))))) else some ((-4))))))))))
def fM_unfit (σ : Sg) (v1 : Int32) (v2 : Int32) : Option (Int32) := fM_unfit_0 σ  v1 v2
def fM_cuts_0 (σ : Sg) (v1 : Int32) (v2 : Int32) (v3 : Int32) (v4 : Int32) : Option (Int32 × Sg) :=
  gd (ib 0 6) (lt (σ 7 8 (0 : Int32).toNatClampNeg) (fun y1 => gd (ib y1 1800) (lt (upA σ 7 19 (upd (σ 7 19) y1.toNatClampNeg v3)) (fun σ2 => gd (ib y1 1800) (lt (upA σ2 7 20 (upd (σ2 7 20) y1.toNatClampNeg v4)) (fun σ3 => gd (ib y1 1800) (lt (upA σ3 7 21 (upd (σ3 7 21) y1.toNatClampNeg v1)) (fun σ4 => gd (ib y1 1800) (lt (upA σ4 7 22 (upd (σ4 7 22) y1.toNatClampNeg v2)) (fun σ5 => gd (ib 0 6) (gd (ib y1 1800) (lt (upA σ5 7 23 (upd (σ5 7 23) y1.toNatClampNeg (σ5 7 6 (0 : Int32).toNatClampNeg))) (fun σ6 => gd (ib y1 1800) (lt (upA σ6 7 24 (upd (σ6 7 24) y1.toNatClampNeg ((-1)))) (fun σ7 => gd (ib ((180 * v1) + v2) 8640) (lt (upA σ7 7 18 (upd (σ7 7 18) ((180 * v1) + v2).toNatClampNeg (10 + y1))) (fun σ8 => gd (ib 0 6) (gd (ib 0 6) (lt (upA σ8 7 8 (upd (σ8 7 8) (0 : Int32).toNatClampNeg ((σ8 7 8 (0 : Int32).toNatClampNeg) + 1))) (fun σ9 => gd (ib 0 36) (gd (ib 0 36) (lt (upA σ9 7 9 (upd (σ9 7 9) (0 : Int32).toNatClampNeg ((σ9 7 9 (0 : Int32).toNatClampNeg) + v4))) (fun σ10 => some (y1, σ10))))))))))))))))))))))))
def fM_cuts (σ : Sg) (v1 : Int32) (v2 : Int32) (v3 : Int32) (v4 : Int32) : Option (Int32 × Sg) := fM_cuts_0 σ  v1 v2 v3 v4
def fM_cut_22 (σ : Sg) : Option (Int32 × Sg) :=
  bi (fM_ends σ ((-1))) (fun y10 σ11 => some (y10, σ11))
def fM_cut_75 (σ : Sg) (t0 : Int32) : Option (Int32 × Sg) :=
  bi (fM_ends σ t0) (fun y8 σ9 => some (y8, σ9))
def fM_cut_0 (σ : Sg) (v1 : Int32) (v2 : Int32) (v3 : Int32) (v4 : Int32) : Option (Int32 × Sg) :=
  bp (fM_in σ v3 0 2) (fun y1 => (if y1 = 0 then fM_cut_22 σ else bp (fM_in σ v4 1000 1000000) (fun y2 => (if y2 = 0 then fM_cut_22 σ else bp (fM_unfit σ v1 v2) (fun y3 => (if y3 = 0 then gd (ib 0 6) ((if (σ 7 8 (0 : Int32).toNatClampNeg) = 300 then fM_cut_75 σ ((-6)) else bi (fM_cuts σ v1 v2 v3 v4) (fun y4 σ5 => fM_cut_75 σ5 y4))) else bi (fM_ends σ y3) (fun y6 σ7 => some (y6, σ7))))))))
def fM_cut (σ : Sg) (v1 : Int32) (v2 : Int32) (v3 : Int32) (v4 : Int32) : Option (Int32 × Sg) := fM_cut_0 σ  v1 v2 v3 v4
def fM_put_69 (σ : Sg) : Option (Int32 × Sg) :=
  bi (fM_ends σ ((-7))) (fun y7 σ8 => some (y7, σ8))
def fM_put_96 (σ : Sg) (t0 : Int32) (t1 : Int32) : Option (Int32 × Sg) :=
  gd (ib t1 8640) (lt (upA σ 7 18 (upd (σ 7 18) t1.toNatClampNeg t0)) (fun σ9 => bi (fM_ends σ9 0) (fun y10 σ11 => some (y10, σ11))))
def fM_put_76 (σ : Sg) (x1 : Int32) (x2 : Int32) (x3 : Int32) : Option (Int32 × Sg) :=
  if x3 = 0 then fM_put_96 σ 1 ((180 * x1) + x2) else fM_put_96 σ 2 ((180 * x1) + x2)
def fM_put_0 (σ : Sg) (v1 : Int32) (v2 : Int32) (v3 : Int32) : Option (Int32 × Sg) :=
  bp (fM_in σ v3 0 1) (fun y1 => (if y1 = 0 then bi (fM_ends σ ((-1))) (fun y5 σ6 => some (y5, σ6)) else bp (fM_unfit σ v1 v2) (fun y2 => (if y2 = 0 then if v3 = 0 then gd (ib v1 48) ((if (σ 7 10 v1.toNatClampNeg) = 4 then fM_put_69 σ else gd (ib v1 48) ((if (σ 7 10 v1.toNatClampNeg) = 3 then gd (ib v1 48) ((if (σ 7 13 v1.toNatClampNeg) = 1 then fM_put_69 σ else fM_put_76 σ v1 v2 v3)) else fM_put_76 σ v1 v2 v3)))) else fM_put_76 σ v1 v2 v3 else bi (fM_ends σ y2) (fun y3 σ4 => some (y3, σ4))))))
def fM_put (σ : Sg) (v1 : Int32) (v2 : Int32) (v3 : Int32) : Option (Int32 × Sg) := fM_put_0 σ  v1 v2 v3
def fM_clear_73 (σ : Sg) : Option (Int32 × Sg) :=
  bi (fM_ends σ ((-7))) (fun y11 σ12 => some (y11, σ12))
def fM_clear_63 (σ : Sg) (x1 : Int32) (x2 : Int32) : Option (Int32 × Sg) :=
  bp (fM_side σ x1 x2 5) (fun y13 => (if y13 = 0 then gd (ib ((180 * x1) + x2) 8640) (lt (upA σ 7 18 (upd (σ 7 18) ((180 * x1) + x2).toNatClampNeg 0)) (fun σ14 => bi (fM_ends σ14 0) (fun y15 σ16 => some (y15, σ16)))) else fM_clear_73 σ))
def fM_clear_0 (σ : Sg) (v1 : Int32) (v2 : Int32) : Option (Int32 × Sg) :=
  bp (fM_isRoom σ v1) (fun y1 => (if y1 = 0 then bi (fM_ends σ ((-2))) (fun y9 σ10 => some (y9, σ10)) else bp (fM_isPlace σ v1 v2) (fun y2 => (if y2 = 0 then bi (fM_ends σ ((-1))) (fun y7 σ8 => some (y7, σ8)) else bp (fM_isLaid σ v1 v2) (fun y3 => (if y3 = 0 then bi (fM_ends σ ((-3))) (fun y5 σ6 => some (y5, σ6)) else bp (fM_at σ v1 v2) (fun y4 => (if y4 = 1 then fM_clear_63 σ v1 v2 else if y4 = 2 then fM_clear_63 σ v1 v2 else fM_clear_73 σ))))))))
def fM_clear (σ : Sg) (v1 : Int32) (v2 : Int32) : Option (Int32 × Sg) := fM_clear_0 σ  v1 v2
def fM_place_0 (σ : Sg) (v1 : Int32) (v2 : Int32) : Option (Int32) :=
  bp (fM_isRoom σ v1) (fun y1 => (if y1 = 0 then some ((-2)) else bp (fM_isPlace σ v1 v2) (fun y2 => (if y2 = 0 then some ((-1)) else bp (fM_isLaid σ v1 v2) (fun y3 => (if y3 = 0 then some ((-3)) else bp (fM_at σ v1 v2) (fun y4 => some y4)))))))
def fM_place (σ : Sg) (v1 : Int32) (v2 : Int32) : Option (Int32) := fM_place_0 σ  v1 v2
def fM_block_45 (σ : Sg) (x1 : Int32) (x2 : Int32) (t0 : Int32) : Option (Int32) :=
  if x2 = 0 then gd (ib x1 1800) (some (σ 7 19 x1.toNatClampNeg)) else (if x2 = 1 then gd (ib x1 1800) (some (σ 7 20 x1.toNatClampNeg)) else (if x2 = 2 then gd (ib x1 1800) (some (σ 7 21 x1.toNatClampNeg)) else (if x2 = 3 then gd (ib x1 1800) (some (σ 7 22 x1.toNatClampNeg)) else (if x2 = 4 then gd (ib x1 1800) (some (σ 7 23 x1.toNatClampNeg)) else (if x2 = 5 then gd (ib x1 1800) (some (σ 7 24 x1.toNatClampNeg)) else (if x2 = 6 then if t0 = 0 then some 0 else gd (ib x1 1800) (gd (ib x1 1800) (bp (fM_sides σ (σ 7 21 x1.toNatClampNeg) (σ 7 22 x1.toNatClampNeg) 0) (fun y3 => some y3))) else (if x2 = 7 then if t0 = 0 then some 0 else gd (ib x1 1800) (gd (ib x1 1800) (bp (fM_sides σ (σ 7 21 x1.toNatClampNeg) (σ 7 22 x1.toNatClampNeg) 1) (fun y4 => some y4))) else (if x2 = 8 then if t0 = 0 then some 0 else gd (ib 0 6) (bp (fM_loss σ x1 (σ 7 6 (0 : Int32).toNatClampNeg)) (fun y5 => some y5)) else (if t0 = 0 then some 0 else bp (fM_isFree σ x1) (fun y6 => (if y6 = 0 then some 0 else some 1)))))))))))
def fM_block_0 (σ : Sg) (v1 : Int32) (v2 : Int32) : Option (Int32) :=
  bp (fM_in σ v2 0 9) (fun y1 => (if y1 = 0 then some ((-1)) else gd (ib 0 6) (bp (fM_in σ v1 0 ((σ 7 8 (0 : Int32).toNatClampNeg) - 1)) (fun y2 => (if y2 = 0 then some ((-2)) else gd (ib v1 1800) ((if (σ 7 21 v1.toNatClampNeg) < 0 then fM_block_45 σ v1 v2 0 else fM_block_45 σ v1 v2 1)))))))
def fM_block (σ : Sg) (v1 : Int32) (v2 : Int32) : Option (Int32) := fM_block_0 σ  v1 v2
def fM_isDrained_52 (k27 : Int32 → Int32 → Int32 → Option (Int32)) (σ : Sg) (x2 : Int32) (x4 : Int32) (t0 : Int32) : Option (Int32) :=
  bp (fM_floor σ x2) (fun y7 => lt (x4 - y7) (fun y8 => k27 x2 t0 y8))
def fM_isDrained_47 (k27 : Int32 → Int32 → Int32 → Option (Int32)) (σ : Sg) (x2 : Int32) (x4 : Int32) : Option (Int32) :=
  fM_isDrained_52 k27 σ x2 x4 1
def fM_isDrained_27_b (k27 : Int32 → Int32 → Int32 → Option (Int32)) (σ : Sg) (x2 : Int32) (x3 : Int32) (x4 : Int32) : Option (Int32) :=
  if x4 < 0 then gd (isb x3) (some x3) else if x3 = 0 then bp (fM_at σ x2 x4) (fun y6 => (if y6 = 2 then fM_isDrained_47 k27 σ x2 x4 else fM_isDrained_52 k27 σ x2 x4 0)) else fM_isDrained_47 k27 σ x2 x4
def fM_isDrained_27 (n : Nat) (σ : Sg) (x2 : Int32) (x3 : Int32) (x4 : Int32) : Option (Int32) := match n with
  | 0 => none
  | n + 1 => fM_isDrained_27_b  (fun x2 x3 x4 => fM_isDrained_27  n σ  x2 x3 x4) σ  x2 x3 x4
def fM_isDrained_0 (σ : Sg) (v1 : Int32) : Option (Int32) :=
  gd (ib v1 1800) (lt (σ 7 21 v1.toNatClampNeg) (fun y1 => bp (fM_hasDrain σ y1) (fun y2 => gd (ib v1 1800) (bp (fM_floor σ y1) (fun y3 => lt ((σ 7 22 v1.toNatClampNeg) - y3) (fun y4 => fM_isDrained_27 FU σ y1 y2 y4))))))
def fM_isDrained (σ : Sg) (v1 : Int32) : Option (Int32) := fM_isDrained_0 σ  v1
def fM_isBySalt_59 (k4 : Int32 → Int32 → Int32 → Option (Int32)) (σ : Sg) (x1 : Int32) (x3 : Int32) (t0 : Int32) : Option (Int32) :=
  lt (x3 + 1) (fun y3 => k4 x1 t0 y3)
def fM_isBySalt_54 (k4 : Int32 → Int32 → Int32 → Option (Int32)) (σ : Sg) (x1 : Int32) (x3 : Int32) : Option (Int32) :=
  fM_isBySalt_59 k4 σ x1 x3 1
def fM_isBySalt_58 (k4 : Int32 → Int32 → Int32 → Option (Int32)) (σ : Sg) (x1 : Int32) (x3 : Int32) : Option (Int32) :=
  fM_isBySalt_59 k4 σ x1 x3 0
def fM_isBySalt_4_b (k4 : Int32 → Int32 → Int32 → Option (Int32)) (σ : Sg) (x1 : Int32) (x2 : Int32) (x3 : Int32) : Option (Int32) :=
  if 6 ≤ x3 then gd (isb x2) (some x2) else gd (ib x1 1800) (gd (ib x1 1800) (bp (fM_side σ (σ 7 21 x1.toNatClampNeg) (σ 7 22 x1.toNatClampNeg) x3) (fun y2 => (if x2 = 0 then if y2 < 10 then fM_isBySalt_58 k4 σ x1 x3 else gd (ib (y2 - 10) 1800) ((if (σ 7 19 (y2 - 10).toNatClampNeg) = 2 then fM_isBySalt_54 k4 σ x1 x3 else fM_isBySalt_58 k4 σ x1 x3)) else fM_isBySalt_54 k4 σ x1 x3))))
def fM_isBySalt_4 (n : Nat) (σ : Sg) (x1 : Int32) (x2 : Int32) (x3 : Int32) : Option (Int32) := match n with
  | 0 => none
  | n + 1 => fM_isBySalt_4_b  (fun x1 x2 x3 => fM_isBySalt_4  n σ  x1 x2 x3) σ  x1 x2 x3
def fM_isBySalt_0 (σ : Sg) (v1 : Int32) : Option (Int32) :=
  fM_isBySalt_4 FU σ v1 0 0
def fM_isBySalt (σ : Sg) (v1 : Int32) : Option (Int32) := fM_isBySalt_0 σ  v1
def fM_out_0 (σ : Sg) (v1 : Int32) : Option (Sg) :=
  gd (ib v1 1800) (gd (ib v1 1800) (gd (ib ((180 * (σ 7 21 v1.toNatClampNeg)) + (σ 7 22 v1.toNatClampNeg)) 8640) (lt (upA σ 7 18 (upd (σ 7 18) ((180 * (σ 7 21 v1.toNatClampNeg)) + (σ 7 22 v1.toNatClampNeg)).toNatClampNeg 0)) (fun σ1 => gd (ib v1 1800) (lt (upA σ1 7 21 (upd (σ1 7 21) v1.toNatClampNeg ((-1)))) (fun σ2 => gd (ib v1 1800) (lt (upA σ2 7 22 (upd (σ2 7 22) v1.toNatClampNeg ((-1)))) (fun σ3 => some σ3))))))))
def fM_out (σ : Sg) (v1 : Int32) : Option (Sg) := fM_out_0 σ  v1
def fM_writesLine_85_b (k85 : Sg → Int32 → Int32 → Option (Sg)) (σ : Sg) (x4 : Int32) (x5 : Int32) : Option (Sg) :=
  if 6 ≤ x5 then lt (upA σ 7 0 (upd (σ 7 0) 27 ((σ 7 0 27) + 1))) (fun σ8 => some σ8) else gd (ib (x4 + x5) 1800) (gd (ib (x4 + x5) 1800) (lt (upA σ 7 29 (upd (σ 7 29) (x4 + x5).toNatClampNeg (σ 7 28 (x4 + x5).toNatClampNeg))) (fun σ9 => lt (x5 + 1) (fun y10 => k85 σ9 x4 y10))))
def fM_writesLine_85 (n : Nat) (σ : Sg) (x4 : Int32) (x5 : Int32) : Option (Sg) := match n with
  | 0 => none
  | n + 1 => fM_writesLine_85_b  (fun σ x4 x5 => fM_writesLine_85  n σ  x4 x5) σ  x4 x5
def fM_writesLine_0 (σ : Sg) (v1 : Int32) (v2 : Int32) (v3 : Int32) : Option (Sg) :=
  lt (6 * (σ 7 0 27)) (fun y1 => gd (ib y1 1800) (lt (upA σ 7 28 (upd (σ 7 28) y1.toNatClampNeg v1)) (fun σ2 => gd (ib v1 1800) (gd (ib (y1 + 1) 1800) (lt (upA σ2 7 28 (upd (σ2 7 28) (y1 + 1).toNatClampNeg (σ2 7 21 v1.toNatClampNeg))) (fun σ3 => gd (ib v1 1800) (gd (ib (y1 + 2) 1800) (lt (upA σ3 7 28 (upd (σ3 7 28) (y1 + 2).toNatClampNeg (σ3 7 22 v1.toNatClampNeg))) (fun σ4 => gd (ib v1 1800) (gd (ib (y1 + 3) 1800) (lt (upA σ4 7 28 (upd (σ4 7 28) (y1 + 3).toNatClampNeg (σ4 7 20 v1.toNatClampNeg))) (fun σ5 => gd (ib (y1 + 4) 1800) (lt (upA σ5 7 28 (upd (σ5 7 28) (y1 + 4).toNatClampNeg v2)) (fun σ6 => gd (ib (y1 + 5) 1800) (lt (upA σ6 7 28 (upd (σ6 7 28) (y1 + 5).toNatClampNeg v3)) (fun σ7 => fM_writesLine_85 FU σ7 y1 0))))))))))))))))
def fM_writesLine (σ : Sg) (v1 : Int32) (v2 : Int32) (v3 : Int32) : Option (Sg) := fM_writesLine_0 σ  v1 v2 v3
def fM_goes_129 (k5 : Sg → Int32 → Int32 → Int32 → Int32 → Option (Int32 × Sg)) (σ : Sg) (x1 : Int32) (x2 : Int32) (x3 : Int32) (x4 : Int32) : Option (Int32 × Sg) :=
  lt (x4 + 1) (fun y9 => k5 σ x1 x2 x3 y9)
def fM_goes_116 (k5 : Sg → Int32 → Int32 → Int32 → Int32 → Option (Int32 × Sg)) (σ : Sg) (x1 : Int32) (x2 : Int32) (x3 : Int32) (x4 : Int32) : Option (Int32 × Sg) :=
  gd (ib 0 6) (gd (ib x4 1800) (lt (upA σ 7 24 (upd (σ 7 24) x4.toNatClampNeg (σ 7 6 (0 : Int32).toNatClampNeg))) (fun σ8 => fM_goes_129 k5 σ8 x1 x2 x3 x4)))
def fM_goes_342 (k138 : Sg → Int32 → Int32 → Int32 → Option (Int32 × Sg)) (σ : Sg) (x2 : Int32) (x3 : Int32) (x4 : Int32) : Option (Int32 × Sg) :=
  lt (x4 + 1) (fun y13 => k138 σ x2 x3 y13)
def fM_goes_300 (k138 : Sg → Int32 → Int32 → Int32 → Option (Int32 × Sg)) (σ : Sg) (x2 : Int32) (x3 : Int32) (x4 : Int32) (x5 : Int32) (x6 : Int32) : Option (Int32 × Sg) :=
  gd (ib x4 1800) (lt (upA σ 7 20 (upd (σ 7 20) x4.toNatClampNeg x5)) (fun σ18 => (if x6 = 0 then fM_goes_342 k138 σ18 x2 x3 x4 else gd (ib 3 36) (gd (ib 3 36) (lt (upA σ18 7 9 (upd (σ18 7 9) (3 : Int32).toNatClampNeg ((σ18 7 9 (3 : Int32).toNatClampNeg) + x5))) (fun σ19 => gd (ib x4 1800) (lt (upA σ19 7 20 (upd (σ19 7 20) x4.toNatClampNeg 0)) (fun σ20 => bp (fM_out σ20 x4) (fun σ21 => fM_goes_342 k138 σ21 x2 x3 x4)))))))))
def fM_goes_233 (k138 : Sg → Int32 → Int32 → Int32 → Option (Int32 × Sg)) (σ : Sg) (x2 : Int32) (x3 : Int32) (x4 : Int32) (x5 : Int32) (x6 : Int32) : Option (Int32 × Sg) :=
  gd (ib x4 300) (lt (x3 + (σ 7 30 x4.toNatClampNeg)) (fun y15 => gd (ib x4 300) ((if (σ 7 31 x4.toNatClampNeg) = 0 then gd (ib x4 1800) (gd (ib (σ 7 21 x4.toNatClampNeg) 48) (gd (ib x4 300) (gd (ib (σ 7 21 x4.toNatClampNeg) 48) (lt (upA σ 7 16 (upd (σ 7 16) (σ 7 21 x4.toNatClampNeg).toNatClampNeg ((σ 7 16 (σ 7 21 x4.toNatClampNeg).toNatClampNeg) + (σ 7 30 x4.toNatClampNeg)))) (fun σ16 => fM_goes_300 k138 σ16 x2 y15 x4 x5 x6))))) else gd (ib x4 1800) (gd (ib (σ 7 21 x4.toNatClampNeg) 48) (gd (ib x4 300) (gd (ib (σ 7 21 x4.toNatClampNeg) 48) (lt (upA σ 7 15 (upd (σ 7 15) (σ 7 21 x4.toNatClampNeg).toNatClampNeg ((σ 7 15 (σ 7 21 x4.toNatClampNeg).toNatClampNeg) + (σ 7 30 x4.toNatClampNeg)))) (fun σ17 => fM_goes_300 k138 σ17 x2 y15 x4 x5 x6)))))))))
def fM_goes_230 (k138 : Sg → Int32 → Int32 → Int32 → Option (Int32 × Sg)) (σ : Sg) (x2 : Int32) (x3 : Int32) (x4 : Int32) (x5 : Int32) (x6 : Int32) (t0 : Int32) (t1 : Int32) (t2 : Int32) : Option (Int32 × Sg) :=
  bp (fM_writesLine σ t2 t1 t0) (fun σ14 => fM_goes_233 k138 σ14 x2 x3 x4 x5 x6)
def fM_goes_193 (k138 : Sg → Int32 → Int32 → Int32 → Option (Int32 × Sg)) (σ : Sg) (x2 : Int32) (x3 : Int32) (x4 : Int32) (x5 : Int32) (t0 : Int32) : Option (Int32 × Sg) :=
  if x2 = 0 then fM_goes_233 k138 σ x2 x3 x4 x5 t0 else gd (ib x4 300) ((if (σ 7 30 x4.toNatClampNeg) ≤ 0 then fM_goes_233 k138 σ x2 x3 x4 x5 t0 else gd (ib x4 300) ((if t0 = 0 then fM_goes_230 k138 σ x2 x3 x4 x5 t0 x5 (σ 7 30 x4.toNatClampNeg) x4 else fM_goes_230 k138 σ x2 x3 x4 x5 t0 0 (σ 7 30 x4.toNatClampNeg) x4))))
def fM_goes_138_b (k138 : Sg → Int32 → Int32 → Int32 → Option (Int32 × Sg)) (σ : Sg) (x2 : Int32) (x3 : Int32) (x4 : Int32) : Option (Int32 × Sg) :=
  gd (ib 0 6) ((if (σ 7 8 (0 : Int32).toNatClampNeg) ≤ x4 then gd (ib 2 36) (gd (ib 2 36) (lt (upA σ 7 9 (upd (σ 7 9) (2 : Int32).toNatClampNeg ((σ 7 9 (2 : Int32).toNatClampNeg) + x3))) (fun σ10 => gd (ib 0 6) (gd (ib 0 6) (lt (upA σ10 7 6 (upd (σ10 7 6) (0 : Int32).toNatClampNeg ((σ10 7 6 (0 : Int32).toNatClampNeg) + 1))) (fun σ11 => some (x3, σ11))))))) else gd (ib x4 1800) ((if 0 ≤ (σ 7 21 x4.toNatClampNeg) then gd (ib x4 1800) (gd (ib x4 300) (lt ((σ 7 20 x4.toNatClampNeg) - (σ 7 30 x4.toNatClampNeg)) (fun y12 => (if (σ 7 0 5) ≤ y12 then fM_goes_193 k138 σ x2 x3 x4 y12 0 else fM_goes_193 k138 σ x2 x3 x4 y12 1)))) else fM_goes_342 k138 σ x2 x3 x4))))
def fM_goes_138 (n : Nat) (σ : Sg) (x2 : Int32) (x3 : Int32) (x4 : Int32) : Option (Int32 × Sg) := match n with
  | 0 => none
  | n + 1 => fM_goes_138_b  (fun σ x2 x3 x4 => fM_goes_138  n σ  x2 x3 x4) σ  x2 x3 x4
def fM_goes_5_b (k5 : Sg → Int32 → Int32 → Int32 → Int32 → Option (Int32 × Sg)) (σ : Sg) (x1 : Int32) (x2 : Int32) (x3 : Int32) (x4 : Int32) : Option (Int32 × Sg) :=
  gd (ib 0 6) ((if (σ 7 8 (0 : Int32).toNatClampNeg) ≤ x4 then fM_goes_138 FU σ x2 x3 0 else gd (ib x4 300) (lt (upA σ 7 30 (upd (σ 7 30) x4.toNatClampNeg 0)) (fun σ1 => gd (ib x4 1800) ((if 0 ≤ (σ1 7 21 x4.toNatClampNeg) then bp (fM_loss σ1 x4 x1) (fun y2 => gd (ib x4 300) (lt (upA σ1 7 30 (upd (σ1 7 30) x4.toNatClampNeg y2)) (fun σ3 => bp (fM_isDrained σ3 x4) (fun y4 => gd (ib x4 300) (lt (upA σ3 7 31 (upd (σ3 7 31) x4.toNatClampNeg (vp_nar .boolean y4))) (fun σ5 => gd (ib x4 1800) ((if (σ5 7 19 x4.toNatClampNeg) = 1 then gd (ib x4 1800) ((if (σ5 7 24 x4.toNatClampNeg) = ((-1)) then bp (fM_isBySalt σ5 x4) (fun y6 => (if y6 = 0 then gd (ib x4 1800) (gd (ib x4 1800) (bp (fM_isInWater σ5 (σ5 7 21 x4.toNatClampNeg) (σ5 7 22 x4.toNatClampNeg)) (fun y7 => (if y7 = 0 then fM_goes_129 k5 σ5 x1 x2 x3 x4 else fM_goes_116 k5 σ5 x1 x2 x3 x4)))) else fM_goes_116 k5 σ5 x1 x2 x3 x4)) else fM_goes_129 k5 σ5 x1 x2 x3 x4)) else fM_goes_129 k5 σ5 x1 x2 x3 x4)))))))) else fM_goes_129 k5 σ1 x1 x2 x3 x4))))))
def fM_goes_5 (n : Nat) (σ : Sg) (x1 : Int32) (x2 : Int32) (x3 : Int32) (x4 : Int32) : Option (Int32 × Sg) := match n with
  | 0 => none
  | n + 1 => fM_goes_5_b  (fun σ x1 x2 x3 x4 => fM_goes_5  n σ  x1 x2 x3 x4) σ  x1 x2 x3 x4
def fM_goes_0 (σ : Sg) (v1 : Int32) (v2 : Int32) : Option (Int32 × Sg) :=
  fM_goes_5 FU σ v1 v2 0 0
def fM_goes (σ : Sg) (v1 : Int32) (v2 : Int32) : Option (Int32 × Sg) := fM_goes_0 σ  v1 v2
def fM_day_0 (σ : Sg) : Option (Int32 × Sg) :=
  gd (ib 0 6) ((if (σ 7 6 (0 : Int32).toNatClampNeg) = 199 then bi (fM_ends σ ((-7))) (fun y7 σ8 => some (y7, σ8)) else lt (upA σ 7 0 (upd (σ 7 0) 27 0)) (fun σ1 => gd (isb 1) (lt (upA σ1 7 0 (upd (σ1 7 0) 26 1)) (fun σ2 => gd (ib 0 6) (bi (fM_goes σ2 (σ2 7 6 (0 : Int32).toNatClampNeg) 1) (fun y3 σ4 => bi (fM_ends σ4 y3) (fun y5 σ6 => some (y5, σ6)))))))))
def fM_day (σ : Sg) : Option (Int32 × Sg) := fM_day_0 σ  
def fM_line_0 (σ : Sg) (v1 : Int32) (v2 : Int32) : Option (Int32) :=
  bp (fM_in σ v2 0 5) (fun y1 => (if y1 = 0 then some ((-1)) else bp (fM_in σ v1 0 ((σ 7 0 27) - 1)) (fun y2 => (if y2 = 0 then some ((-2)) else gd (ib ((6 * v1) + v2) 1800) (some (σ 7 28 ((6 * v1) + v2).toNatClampNeg))))))
def fM_line (σ : Sg) (v1 : Int32) (v2 : Int32) : Option (Int32) := fM_line_0 σ  v1 v2
def fM_alter_13 (σ : Sg) : Option (Int32 × Sg) :=
  bi (fM_ends σ ((-1))) (fun y8 σ9 => some (y8, σ9))
def fM_alter_0 (σ : Sg) (v1 : Int32) (v2 : Int32) (v3 : Int32) : Option (Int32 × Sg) :=
  bp (fM_in σ v2 0 5) (fun y1 => (if y1 = 0 then fM_alter_13 σ else if v3 = 0 then fM_alter_13 σ else bp (fM_in σ v1 0 ((σ 7 0 27) - 1)) (fun y2 => (if y2 = 0 then bi (fM_ends σ ((-2))) (fun y6 σ7 => some (y6, σ7)) else gd (ib ((6 * v1) + v2) 1800) (gd (ib ((6 * v1) + v2) 1800) (lt (upA σ 7 28 (upd (σ 7 28) ((6 * v1) + v2).toNatClampNeg ((σ 7 28 ((6 * v1) + v2).toNatClampNeg) ^^^ v3))) (fun σ3 => bi (fM_ends σ3 0) (fun y4 σ5 => some (y4, σ5)))))))))
def fM_alter (σ : Sg) (v1 : Int32) (v2 : Int32) (v3 : Int32) : Option (Int32 × Sg) := fM_alter_0 σ  v1 v2 v3
def fM_check_12_b (k12 : Int32 → Option (Int32)) (σ : Sg) (x1 : Int32) : Option (Int32) :=
  if (6 * (σ 7 0 27)) ≤ x1 then some ((-1)) else gd (ib x1 1800) (gd (ib x1 1800) ((if (σ 7 28 x1.toNatClampNeg) = (σ 7 29 x1.toNatClampNeg) then lt (x1 + 1) (fun y1 => k12 y1) else some (x1 / 6))))
def fM_check_12 (n : Nat) (σ : Sg) (x1 : Int32) : Option (Int32) := match n with
  | 0 => none
  | n + 1 => fM_check_12_b  (fun x1 => fM_check_12  n σ  x1) σ  x1
def fM_check_0 (σ : Sg) : Option (Int32) :=
  if (σ 7 0 26) = 0 then some ((-7)) else fM_check_12 FU σ 0
def fM_check (σ : Sg) : Option (Int32) := fM_check_0 σ  
def fM_nextOf_172 (k7 : Int32 → Int32 → Int32 → Int32 → Option (Int32)) (σ : Sg) (x1 : Int32) (x2 : Int32) (x3 : Int32) (x4 : Int32) : Option (Int32) :=
  lt (x4 + 1) (fun y5 => k7 x1 x2 x3 y5)
def fM_nextOf_171 (k7 : Int32 → Int32 → Int32 → Int32 → Option (Int32)) (σ : Sg) (x1 : Int32) (x2 : Int32) (x4 : Int32) (t0 : Int32) : Option (Int32) :=
  fM_nextOf_172 k7 σ x1 x2 t0 x4
def fM_nextOf_159 (k7 : Int32 → Int32 → Int32 → Int32 → Option (Int32)) (σ : Sg) (x1 : Int32) (x3 : Int32) (x4 : Int32) (x5 : Int32) (x6 : Int32) (t0 : Int32) : Option (Int32) :=
  if x6 = 0 then fM_nextOf_171 k7 σ x1 t0 x4 x3 else fM_nextOf_171 k7 σ x1 t0 x4 x5
def fM_nextOf_148 (k7 : Int32 → Int32 → Int32 → Int32 → Option (Int32)) (σ : Sg) (x1 : Int32) (x2 : Int32) (x3 : Int32) (x4 : Int32) (x5 : Int32) (x6 : Int32) : Option (Int32) :=
  if x6 = 0 then fM_nextOf_159 k7 σ x1 x3 x4 x5 x6 x2 else fM_nextOf_159 k7 σ x1 x3 x4 x5 x6 x4
def fM_nextOf_146 (k7 : Int32 → Int32 → Int32 → Int32 → Option (Int32)) (σ : Sg) (x1 : Int32) (x2 : Int32) (x3 : Int32) (x4 : Int32) (x5 : Int32) (t0 : Int32) : Option (Int32) :=
  fM_nextOf_148 k7 σ x1 x2 x3 x4 x5 t0
def fM_nextOf_141 (k7 : Int32 → Int32 → Int32 → Int32 → Option (Int32)) (σ : Sg) (x1 : Int32) (x2 : Int32) (x3 : Int32) (x4 : Int32) (x5 : Int32) : Option (Int32) :=
  fM_nextOf_146 k7 σ x1 x2 x3 x4 x5 1
def fM_nextOf_145 (k7 : Int32 → Int32 → Int32 → Int32 → Option (Int32)) (σ : Sg) (x1 : Int32) (x2 : Int32) (x3 : Int32) (x4 : Int32) (x5 : Int32) : Option (Int32) :=
  fM_nextOf_146 k7 σ x1 x2 x3 x4 x5 0
def fM_nextOf_71 (k7 : Int32 → Int32 → Int32 → Int32 → Option (Int32)) (σ : Sg) (x1 : Int32) (x2 : Int32) (x3 : Int32) (x4 : Int32) (x5 : Int32) (t0 : Int32) : Option (Int32) :=
  if t0 = 0 then if x5 = x3 then gd (ib x4 1800) (bp (fM_layerOf σ x1 (σ 7 22 x4.toNatClampNeg)) (fun y3 => gd (ib x2 1800) (bp (fM_layerOf σ x1 (σ 7 22 x2.toNatClampNeg)) (fun y4 => (if y4 < y3 then fM_nextOf_141 k7 σ x1 x2 x3 x4 x5 else if y3 = y4 then gd (ib x4 1800) (gd (ib x2 1800) ((if (σ 7 22 x2.toNatClampNeg) ≤ (σ 7 22 x4.toNatClampNeg) then fM_nextOf_145 k7 σ x1 x2 x3 x4 x5 else fM_nextOf_141 k7 σ x1 x2 x3 x4 x5))) else fM_nextOf_145 k7 σ x1 x2 x3 x4 x5))))) else fM_nextOf_148 k7 σ x1 x2 x3 x4 x5 t0 else fM_nextOf_148 k7 σ x1 x2 x3 x4 x5 t0
def fM_nextOf_66 (k7 : Int32 → Int32 → Int32 → Int32 → Option (Int32)) (σ : Sg) (x1 : Int32) (x2 : Int32) (x3 : Int32) (x4 : Int32) (x5 : Int32) : Option (Int32) :=
  fM_nextOf_71 k7 σ x1 x2 x3 x4 x5 1
def fM_nextOf_7_b (k7 : Int32 → Int32 → Int32 → Int32 → Option (Int32)) (σ : Sg) (x1 : Int32) (x2 : Int32) (x3 : Int32) (x4 : Int32) : Option (Int32) :=
  gd (ib 0 6) ((if (σ 7 8 (0 : Int32).toNatClampNeg) ≤ x4 then some x2 else gd (ib x4 1800) ((if (σ 7 21 x4.toNatClampNeg) = x1 then bp (fM_isFree σ x4) (fun y1 => (if y1 = 0 then fM_nextOf_172 k7 σ x1 x2 x3 x4 else gd (ib 0 6) (bp (fM_loss σ x4 (σ 7 6 (0 : Int32).toNatClampNeg)) (fun y2 => (if x2 = ((-1)) then fM_nextOf_66 k7 σ x1 x2 x3 x4 y2 else if y2 ≤ x3 then fM_nextOf_71 k7 σ x1 x2 x3 x4 y2 0 else fM_nextOf_66 k7 σ x1 x2 x3 x4 y2))))) else fM_nextOf_172 k7 σ x1 x2 x3 x4))))
def fM_nextOf_7 (n : Nat) (σ : Sg) (x1 : Int32) (x2 : Int32) (x3 : Int32) (x4 : Int32) : Option (Int32) := match n with
  | 0 => none
  | n + 1 => fM_nextOf_7_b  (fun x1 x2 x3 x4 => fM_nextOf_7  n σ  x1 x2 x3 x4) σ  x1 x2 x3 x4
def fM_nextOf_0 (σ : Sg) (v1 : Int32) : Option (Int32) :=
  fM_nextOf_7 FU σ v1 ((-1)) 0 0
def fM_nextOf (σ : Sg) (v1 : Int32) : Option (Int32) := fM_nextOf_0 σ  v1
def fM_next_0 (σ : Sg) (v1 : Int32) : Option (Int32) :=
  bp (fM_isRoom σ v1) (fun y1 => (if y1 = 0 then some ((-2)) else bp (fM_nextOf σ v1) (fun y2 => some y2)))
def fM_next (σ : Sg) (v1 : Int32) : Option (Int32) := fM_next_0 σ  v1
def fM_take_59_b (k59 : Sg → Int32 → Int32 → Int32 → Int32 → Option (Int32 × Sg)) (σ : Sg) (x1 : Int32) (x2 : Int32) (x3 : Int32) (x4 : Int32) : Option (Int32 × Sg) :=
  if x2 ≤ x4 then gd (ib 1 36) (gd (ib 1 36) (lt (upA σ 7 9 (upd (σ 7 9) (1 : Int32).toNatClampNeg ((σ 7 9 (1 : Int32).toNatClampNeg) + x3))) (fun σ11 => bi (fM_ends σ11 x3) (fun y12 σ13 => some (y12, σ13))))) else bp (fM_nextOf σ x1) (fun y14 => gd (ib (σ 7 0 36) 300) (lt (upA σ 7 35 (upd (σ 7 35) (σ 7 0 36).toNatClampNeg y14)) (fun σ15 => lt (upA σ15 7 0 (upd (σ15 7 0) 36 ((σ15 7 0 36) + 1))) (fun σ16 => gd (ib y14 1800) (lt (x3 + (σ16 7 20 y14.toNatClampNeg)) (fun y17 => bp (fM_out σ16 y14) (fun σ18 => lt (x4 + 1) (fun y19 => k59 σ18 x1 x2 y17 y19))))))))
def fM_take_59 (n : Nat) (σ : Sg) (x1 : Int32) (x2 : Int32) (x3 : Int32) (x4 : Int32) : Option (Int32 × Sg) := match n with
  | 0 => none
  | n + 1 => fM_take_59_b  (fun σ x1 x2 x3 x4 => fM_take_59  n σ  x1 x2 x3 x4) σ  x1 x2 x3 x4
def fM_take_0 (σ : Sg) (v1 : Int32) (v2 : Int32) : Option (Int32 × Sg) :=
  bp (fM_in σ v2 1 300) (fun y1 => (if y1 = 0 then bi (fM_ends σ ((-1))) (fun y9 σ10 => some (y9, σ10)) else bp (fM_isRoom σ v1) (fun y2 => (if y2 = 0 then bi (fM_ends σ ((-2))) (fun y7 σ8 => some (y7, σ8)) else bp (fM_countOf σ v1 ((-1))) (fun y3 => (if v2 ≤ y3 then lt (upA σ 7 0 (upd (σ 7 0) 36 0)) (fun σ4 => fM_take_59 FU σ4 v1 v2 0 0) else bi (fM_ends σ ((-6))) (fun y5 σ6 => some (y5, σ6))))))))
def fM_take (σ : Sg) (v1 : Int32) (v2 : Int32) : Option (Int32 × Sg) := fM_take_0 σ  v1 v2
def fM_way_20 (σ : Sg) : Option (Int32 × Sg) :=
  bi (fM_ends σ ((-1))) (fun y1 σ2 => some (y1, σ2))
def fM_way_10 (σ : Sg) (x1 : Int32) (x2 : Int32) : Option (Int32 × Sg) :=
  bp (fM_in σ x2 0 20) (fun y3 => (if y3 = 0 then fM_way_20 σ else if (σ 7 0 34) = 6 then bi (fM_ends σ ((-6))) (fun y9 σ10 => some (y9, σ10)) else gd (ib (σ 7 0 34) 6) (lt (upA σ 7 32 (upd (σ 7 32) (σ 7 0 34).toNatClampNeg x1)) (fun σ4 => gd (ib (σ4 7 0 34) 6) (lt (upA σ4 7 33 (upd (σ4 7 33) (σ4 7 0 34).toNatClampNeg x2)) (fun σ5 => lt (upA σ5 7 0 (upd (σ5 7 0) 34 ((σ5 7 0 34) + 1))) (fun σ6 => bi (fM_ends σ6 (σ6 7 0 34)) (fun y7 σ8 => some (y7, σ8)))))))))
def fM_way_0 (σ : Sg) (v1 : Int32) (v2 : Int32) : Option (Int32 × Sg) :=
  if v1 = 4 then fM_way_10 σ v1 v2 else if v1 = 3 then fM_way_10 σ v1 v2 else fM_way_20 σ
def fM_way (σ : Sg) (v1 : Int32) (v2 : Int32) : Option (Int32 × Sg) := fM_way_0 σ  v1 v2
def fM_home_0 (σ : Sg) : Option (Int32 × Sg) :=
  lt (σ 7 0 34) (fun y1 => lt (upA σ 7 0 (upd (σ 7 0) 34 0)) (fun σ2 => some (y1, σ2)))
def fM_home (σ : Sg) : Option (Int32 × Sg) := fM_home_0 σ  
def fM_comeOf_114 (k29 : Int32 → Int32 → Int32 → Int32 → Int32 → Option (Int32)) (σ : Sg) (x1 : Int32) (x3 : Int32) (x4 : Int32) (x5 : Int32) (t0 : Int32) : Option (Int32) :=
  lt (x3 + 1) (fun y6 => lt (x5 + 1) (fun y7 => k29 x1 t0 y6 x4 y7))
def fM_comeOf_99 (k29 : Int32 → Int32 → Int32 → Int32 → Int32 → Option (Int32)) (σ : Sg) (x1 : Int32) (x3 : Int32) (x4 : Int32) (x5 : Int32) (t0 : Int32) (t1 : Int32) : Option (Int32) :=
  lt (t1 - t0) (fun y5 => (if (σ 7 0 5) ≤ y5 then fM_comeOf_114 k29 σ x1 x3 x4 x5 y5 else fM_comeOf_114 k29 σ x1 x3 x4 x5 0))
def fM_comeOf_94 (k29 : Int32 → Int32 → Int32 → Int32 → Int32 → Option (Int32)) (σ : Sg) (x1 : Int32) (x3 : Int32) (x4 : Int32) (x5 : Int32) (t0 : Int32) (t1 : Int32) (t2 : Int32) : Option (Int32) :=
  fM_comeOf_99 k29 σ x1 x3 x4 x5 (t1 * t0) t2
def fM_comeOf_63 (k29 : Int32 → Int32 → Int32 → Int32 → Int32 → Option (Int32)) (σ : Sg) (x1 : Int32) (x2 : Int32) (x3 : Int32) (x4 : Int32) (x5 : Int32) (t0 : Int32) (t1 : Int32) : Option (Int32) :=
  bp (fM_warmthOf σ t1 t0) (fun y4 => (if y4 ≤ 0 then fM_comeOf_99 k29 σ x1 x3 x4 x5 0 x2 else gd (ib x1 1800) ((if (σ 7 19 x1.toNatClampNeg) = 2 then fM_comeOf_94 k29 σ x1 x3 x4 x5 5 (6 * y4) x2 else fM_comeOf_94 k29 σ x1 x3 x4 x5 3 (6 * y4) x2))))
def fM_comeOf_29_b (k17 : Int32 → Int32 → Int32 → Int32 → Option (Int32)) (k29 : Int32 → Int32 → Int32 → Int32 → Int32 → Option (Int32)) (σ : Sg) (x1 : Int32) (x2 : Int32) (x3 : Int32) (x4 : Int32) (x5 : Int32) : Option (Int32) :=
  gd (ib x4 6) ((if (σ 7 33 x4.toNatClampNeg) ≤ x5 then lt (x4 + 1) (fun y3 => k17 x1 x2 x3 y3) else gd (ib x4 6) ((if 199 ≤ x3 then fM_comeOf_63 k29 σ x1 x2 x3 x4 x5 199 (σ 7 32 x4.toNatClampNeg) else fM_comeOf_63 k29 σ x1 x2 x3 x4 x5 x3 (σ 7 32 x4.toNatClampNeg)))))
def fM_comeOf_29 (k17 : Int32 → Int32 → Int32 → Int32 → Option (Int32)) (n : Nat) (σ : Sg) (x1 : Int32) (x2 : Int32) (x3 : Int32) (x4 : Int32) (x5 : Int32) : Option (Int32) := match n with
  | 0 => none
  | n + 1 => fM_comeOf_29_b k17 (fun x1 x2 x3 x4 x5 => fM_comeOf_29 k17 n σ  x1 x2 x3 x4 x5) σ  x1 x2 x3 x4 x5
def fM_comeOf_17_b (k17 : Int32 → Int32 → Int32 → Int32 → Option (Int32)) (σ : Sg) (x1 : Int32) (x2 : Int32) (x3 : Int32) (x4 : Int32) : Option (Int32) :=
  if (σ 7 0 34) ≤ x4 then some x2 else fM_comeOf_29 k17 FU σ x1 x2 x3 x4 0
def fM_comeOf_17 (n : Nat) (σ : Sg) (x1 : Int32) (x2 : Int32) (x3 : Int32) (x4 : Int32) : Option (Int32) := match n with
  | 0 => none
  | n + 1 => fM_comeOf_17_b  (fun x1 x2 x3 x4 => fM_comeOf_17  n σ  x1 x2 x3 x4) σ  x1 x2 x3 x4
def fM_comeOf_0 (σ : Sg) (v1 : Int32) : Option (Int32) :=
  gd (ib v1 1800) (lt (σ 7 20 v1.toNatClampNeg) (fun y1 => gd (ib 0 6) (lt (σ 7 6 (0 : Int32).toNatClampNeg) (fun y2 => fM_comeOf_17 FU σ v1 y1 y2 0))))
def fM_comeOf (σ : Sg) (v1 : Int32) : Option (Int32) := fM_comeOf_0 σ  v1
def fM_remembers_2_b (k2 : Sg → Int32 → Option (Sg)) (σ : Sg) (x1 : Int32) : Option (Sg) :=
  gd (ib 0 6) ((if (σ 7 8 (0 : Int32).toNatClampNeg) ≤ x1 then some σ else gd (ib x1 1800) (gd (ib x1 300) (lt (upA σ 7 41 (upd (σ 7 41) x1.toNatClampNeg (σ 7 21 x1.toNatClampNeg))) (fun σ1 => gd (ib x1 1800) (gd (ib x1 300) (lt (upA σ1 7 42 (upd (σ1 7 42) x1.toNatClampNeg (σ1 7 22 x1.toNatClampNeg))) (fun σ2 => lt (x1 + 1) (fun y3 => k2 σ2 y3)))))))))
def fM_remembers_2 (n : Nat) (σ : Sg) (x1 : Int32) : Option (Sg) := match n with
  | 0 => none
  | n + 1 => fM_remembers_2_b  (fun σ x1 => fM_remembers_2  n σ  x1) σ  x1
def fM_remembers_0 (σ : Sg) : Option (Sg) :=
  fM_remembers_2 FU σ 0
def fM_remembers (σ : Sg) : Option (Sg) := fM_remembers_0 σ  
def fM_brings_80 (k2 : Sg → Int32 → Option (Sg)) (σ : Sg) (x1 : Int32) : Option (Sg) :=
  lt (x1 + 1) (fun y4 => k2 σ y4)
def fM_brings_2_b (k2 : Sg → Int32 → Option (Sg)) (σ : Sg) (x1 : Int32) : Option (Sg) :=
  gd (ib 0 6) ((if (σ 7 8 (0 : Int32).toNatClampNeg) ≤ x1 then some σ else gd (ib x1 300) (gd (ib x1 1800) ((if (σ 7 41 x1.toNatClampNeg) = (σ 7 21 x1.toNatClampNeg) then fM_brings_80 k2 σ x1 else gd (ib x1 300) (gd (ib x1 1800) (lt (upA σ 7 21 (upd (σ 7 21) x1.toNatClampNeg (σ 7 41 x1.toNatClampNeg))) (fun σ1 => gd (ib x1 300) (gd (ib x1 1800) (lt (upA σ1 7 22 (upd (σ1 7 22) x1.toNatClampNeg (σ1 7 42 x1.toNatClampNeg))) (fun σ2 => gd (ib x1 1800) (gd (ib x1 1800) (gd (ib ((180 * (σ2 7 21 x1.toNatClampNeg)) + (σ2 7 22 x1.toNatClampNeg)) 8640) (lt (upA σ2 7 18 (upd (σ2 7 18) ((180 * (σ2 7 21 x1.toNatClampNeg)) + (σ2 7 22 x1.toNatClampNeg)).toNatClampNeg (10 + x1))) (fun σ3 => fM_brings_80 k2 σ3 x1)))))))))))))))
def fM_brings_2 (n : Nat) (σ : Sg) (x1 : Int32) : Option (Sg) := match n with
  | 0 => none
  | n + 1 => fM_brings_2_b  (fun σ x1 => fM_brings_2  n σ  x1) σ  x1
def fM_brings_0 (σ : Sg) : Option (Sg) :=
  fM_brings_2 FU σ 0
def fM_brings (σ : Sg) : Option (Sg) := fM_brings_0 σ  
def fM_comes_46_b (k46 : Sg → Int32 → Int32 → Int32 → Int32 → Option (Int32 × Sg)) (σ : Sg) (x1 : Int32) (x2 : Int32) (x3 : Int32) (x4 : Int32) : Option (Int32 × Sg) :=
  if x2 ≤ x4 then bp (fM_brings σ) (fun σ5 => some (x3, σ5)) else bp (fM_nextOf σ x1) (fun y6 => bp (fM_comeOf σ y6) (fun y7 => lt (x3 + y7) (fun y8 => bp (fM_out σ y6) (fun σ9 => lt (x4 + 1) (fun y10 => k46 σ9 x1 x2 y8 y10)))))
def fM_comes_46 (n : Nat) (σ : Sg) (x1 : Int32) (x2 : Int32) (x3 : Int32) (x4 : Int32) : Option (Int32 × Sg) := match n with
  | 0 => none
  | n + 1 => fM_comes_46_b  (fun σ x1 x2 x3 x4 => fM_comes_46  n σ  x1 x2 x3 x4) σ  x1 x2 x3 x4
def fM_comes_0 (σ : Sg) (v1 : Int32) (v2 : Int32) : Option (Int32 × Sg) :=
  bp (fM_in σ v2 0 300) (fun y1 => (if y1 = 0 then some ((-1), σ) else bp (fM_isRoom σ v1) (fun y2 => (if y2 = 0 then some ((-2), σ) else bp (fM_countOf σ v1 ((-1))) (fun y3 => (if v2 ≤ y3 then bp (fM_remembers σ) (fun σ4 => fM_comes_46 FU σ4 v1 v2 0 0) else some ((-6), σ)))))))
def fM_comes (σ : Sg) (v1 : Int32) (v2 : Int32) : Option (Int32 × Sg) := fM_comes_0 σ  v1 v2
def fM_send_119 (k54 : Sg → Int32 → Int32 → Int32 → Int32 → Int64 → Int32 → Int32 → Option (Int32 × Sg)) (σ : Sg) (x1 : Int32) (x2 : Int32) (x3 : Int32) (x4 : Int32) (x5 : Int64) (x7 : Int32) (x8 : Int32) (t0 : Int32) : Option (Int32 × Sg) :=
  gd (ib x8 1800) (gd (ib t0 3) (lt (x5 + ((((σ 7 20 x8.toNatClampNeg).toInt64) * ((σ 7 40 t0.toNatClampNeg).toInt64)) / 1000)) (fun y12 => gd (ib x4 300) (lt (upA σ 7 43 (upd (σ 7 43) x4.toNatClampNeg x8)) (fun σ13 => lt (x4 + 1) (fun y14 => bp (fM_out σ13 x8) (fun σ15 => bp (fM_nextOf σ15 x1) (fun y16 => k54 σ15 x1 x2 x3 y14 y12 x7 y16))))))))
def fM_send_112 (k54 : Sg → Int32 → Int32 → Int32 → Int32 → Int64 → Int32 → Int32 → Option (Int32 × Sg)) (σ : Sg) (x1 : Int32) (x2 : Int32) (x3 : Int32) (x4 : Int32) (x5 : Int64) (x7 : Int32) (x8 : Int32) : Option (Int32 × Sg) :=
  gd (ib x8 1800) (fM_send_119 k54 σ x1 x2 x3 x4 x5 x7 x8 (σ 7 19 x8.toNatClampNeg))
def fM_send_246_b (k246 : Sg → Int32 → Int32 → Int32 → Option (Int32 × Sg)) (σ : Sg) (x4 : Int32) (x7 : Int32) (x8 : Int32) : Option (Int32 × Sg) :=
  if x4 ≤ x8 then lt (upA σ 7 0 (upd (σ 7 0) 36 x4)) (fun σ23 => gd (ib 1 36) (gd (ib 1 36) (lt (upA σ23 7 9 (upd (σ23 7 9) (1 : Int32).toNatClampNeg ((σ23 7 9 (1 : Int32).toNatClampNeg) + x7))) (fun σ24 => bi (fM_ends σ24 x4) (fun y25 σ26 => some (y25, σ26)))))) else gd (ib x8 300) (gd (ib x8 300) (lt (upA σ 7 35 (upd (σ 7 35) x8.toNatClampNeg (σ 7 43 x8.toNatClampNeg))) (fun σ27 => lt (x8 + 1) (fun y28 => k246 σ27 x4 x7 y28))))
def fM_send_246 (n : Nat) (σ : Sg) (x4 : Int32) (x7 : Int32) (x8 : Int32) : Option (Int32 × Sg) := match n with
  | 0 => none
  | n + 1 => fM_send_246_b  (fun σ x4 x7 x8 => fM_send_246  n σ  x4 x7 x8) σ  x4 x7 x8
def fM_send_222 (σ : Sg) (x4 : Int32) (x7 : Int32) (t0 : Int32) : Option (Int32 × Sg) :=
  lt (upA σ 7 0 (upd (σ 7 0) 39 t0)) (fun σ19 => (if (σ19 7 0 37) ≤ 0 then fM_send_246 FU σ19 x4 x7 0 else bp (fM_brings σ19) (fun σ20 => bi (fM_ends σ20 ((-6))) (fun y21 σ22 => some (y21, σ22)))))
def fM_send_204 (σ : Sg) (x4 : Int32) (x5 : Int64) (x7 : Int32) (t0 : Int32) : Option (Int32 × Sg) :=
  lt (upA σ 7 0 (upd (σ 7 0) 38 t0)) (fun σ18 => (if (σ18 7 0 37) ≤ 0 then fM_send_222 σ18 x4 x7 x5.toInt32 else fM_send_222 σ18 x4 x7 0))
def fM_send_188 (σ : Sg) (x3 : Int32) (x4 : Int32) (x5 : Int64) (x7 : Int32) (t0 : Int32) : Option (Int32 × Sg) :=
  lt (upA σ 7 0 (upd (σ 7 0) 37 t0)) (fun σ17 => (if (σ17 7 0 37) ≤ 0 then fM_send_204 σ17 x4 x5 x7 x3 else fM_send_204 σ17 x4 x5 x7 0))
def fM_send_175 (σ : Sg) (x2 : Int32) (x3 : Int32) (x4 : Int32) (x5 : Int64) (x7 : Int32) : Option (Int32 × Sg) :=
  if x2 ≤ x3 then fM_send_188 σ x3 x4 x5 x7 0 else fM_send_188 σ x3 x4 x5 x7 (x2 - x3)
def fM_send_54_b (k54 : Sg → Int32 → Int32 → Int32 → Int32 → Int64 → Int32 → Int32 → Option (Int32 × Sg)) (σ : Sg) (x1 : Int32) (x2 : Int32) (x3 : Int32) (x4 : Int32) (x5 : Int64) (x7 : Int32) (x8 : Int32) : Option (Int32 × Sg) :=
  if x8 = ((-1)) then fM_send_175 σ x2 x3 x4 x5 x7 else if x2 ≤ x3 then fM_send_175 σ x2 x3 x4 x5 x7 else bp (fM_comeOf σ x8) (fun y9 => lt (x3 + y9) (fun y10 => gd (ib x8 1800) (lt (x7 + (σ 7 20 x8.toNatClampNeg)) (fun y11 => gd (ib x8 1800) ((if (σ 7 19 x8.toNatClampNeg) = 1 then gd (ib x8 1800) ((if (σ 7 24 x8.toNatClampNeg) = ((-1)) then fM_send_112 k54 σ x1 x2 y10 x4 x5 y11 x8 else fM_send_119 k54 σ x1 x2 y10 x4 x5 y11 x8 0)) else fM_send_112 k54 σ x1 x2 y10 x4 x5 y11 x8))))))
def fM_send_54 (n : Nat) (σ : Sg) (x1 : Int32) (x2 : Int32) (x3 : Int32) (x4 : Int32) (x5 : Int64) (x7 : Int32) (x8 : Int32) : Option (Int32 × Sg) := match n with
  | 0 => none
  | n + 1 => fM_send_54_b  (fun σ x1 x2 x3 x4 x5 x7 x8 => fM_send_54  n σ  x1 x2 x3 x4 x5 x7 x8) σ  x1 x2 x3 x4 x5 x7 x8
def fM_send_0 (σ : Sg) (v1 : Int32) (v2 : Int32) : Option (Int32 × Sg) :=
  bp (fM_in σ v2 1 100000000) (fun y1 => (if y1 = 0 then bi (fM_ends σ ((-1))) (fun y7 σ8 => some (y7, σ8)) else bp (fM_isRoom σ v1) (fun y2 => (if y2 = 0 then bi (fM_ends σ ((-2))) (fun y5 σ6 => some (y5, σ6)) else bp (fM_remembers σ) (fun σ3 => bp (fM_nextOf σ3 v1) (fun y4 => fM_send_54 FU σ3 v1 v2 0 0 0 0 y4))))))
def fM_send (σ : Sg) (v1 : Int32) (v2 : Int32) : Option (Int32 × Sg) := fM_send_0 σ  v1 v2
def fM_sent_0 (σ : Sg) (v1 : Int32) : Option (Int32) :=
  if v1 = 0 then some (σ 7 0 37) else if v1 = 1 then some (σ 7 0 38) else if v1 = 2 then some (σ 7 0 39) else some ((-1))
def fM_sent (σ : Sg) (v1 : Int32) : Option (Int32) := fM_sent_0 σ  v1
def fM_list_0 (σ : Sg) (v1 : Int32) : Option (Int32) :=
  bp (fM_in σ v1 0 ((σ 7 0 36) - 1)) (fun y1 => (if y1 = 0 then some ((-1)) else gd (ib v1 300) (some (σ 7 35 v1.toNatClampNeg))))
def fM_list (σ : Sg) (v1 : Int32) : Option (Int32) := fM_list_0 σ  v1
def fM_price_20 (σ : Sg) : Option (Int32 × Sg) :=
  bi (fM_ends σ ((-1))) (fun y6 σ7 => some (y6, σ7))
def fM_price_0 (σ : Sg) (v1 : Int32) (v2 : Int32) : Option (Int32 × Sg) :=
  bp (fM_in σ v1 0 2) (fun y1 => (if y1 = 0 then fM_price_20 σ else bp (fM_in σ v2 0 5000) (fun y2 => (if y2 = 0 then fM_price_20 σ else gd (ib v1 3) (lt (upA σ 7 40 (upd (σ 7 40) v1.toNatClampNeg v2)) (fun σ3 => bi (fM_ends σ3 0) (fun y4 σ5 => some (y4, σ5))))))))
def fM_price (σ : Sg) (v1 : Int32) (v2 : Int32) : Option (Int32 × Sg) := fM_price_0 σ  v1 v2
def fM_foresees_2_b (k2 : Sg → Int32 → Int32 → Option (Sg)) (σ : Sg) (x1 : Int32) (x2 : Int32) : Option (Sg) :=
  gd (ib 0 6) ((if (σ 7 7 (0 : Int32).toNatClampNeg) ≤ x2 then some σ else bp (fM_weight σ x2) (fun y1 => gd (ib ((8 * x1) + x2) 1600) (lt (upA σ 7 48 (upd (σ 7 48) ((8 * x1) + x2).toNatClampNeg y1)) (fun σ2 => lt (x2 + 1) (fun y3 => k2 σ2 x1 y3))))))
def fM_foresees_2 (n : Nat) (σ : Sg) (x1 : Int32) (x2 : Int32) : Option (Sg) := match n with
  | 0 => none
  | n + 1 => fM_foresees_2_b  (fun σ x1 x2 => fM_foresees_2  n σ  x1 x2) σ  x1 x2
def fM_foresees_0 (σ : Sg) (v1 : Int32) : Option (Sg) :=
  fM_foresees_2 FU σ v1 0
def fM_foresees (σ : Sg) (v1 : Int32) : Option (Sg) := fM_foresees_0 σ  v1
def fM_allBlocks_29 (k4 : Int32 → Int32 → Option (Int32)) (σ : Sg) (x2 : Int32) (t0 : Int32) (t1 : Int32) : Option (Int32) :=
  lt (t1 + t0) (fun y1 => lt (x2 + 1) (fun y2 => k4 y1 y2))
def fM_allBlocks_4_b (k4 : Int32 → Int32 → Option (Int32)) (σ : Sg) (x1 : Int32) (x2 : Int32) : Option (Int32) :=
  gd (ib 0 6) ((if (σ 7 8 (0 : Int32).toNatClampNeg) ≤ x2 then some x1 else gd (ib x2 1800) ((if (σ 7 21 x2.toNatClampNeg) < 0 then fM_allBlocks_29 k4 σ x2 0 x1 else fM_allBlocks_29 k4 σ x2 1 x1))))
def fM_allBlocks_4 (n : Nat) (σ : Sg) (x1 : Int32) (x2 : Int32) : Option (Int32) := match n with
  | 0 => none
  | n + 1 => fM_allBlocks_4_b  (fun x1 x2 => fM_allBlocks_4  n σ  x1 x2) σ  x1 x2
def fM_allBlocks_0 (σ : Sg) : Option (Int32) :=
  fM_allBlocks_4 FU σ 0 0
def fM_allBlocks (σ : Sg) : Option (Int32) := fM_allBlocks_0 σ  
def fM_foretell_22 (σ : Sg) : Option (Int32 × Sg) :=
  bi (fM_ends σ ((-1))) (fun y20 σ21 => some (y20, σ21))
def fM_foretell_177 (k115 : Sg → Int32 → Int32 → Int32 → Option (Int32 × Sg)) (σ : Sg) (x2 : Int32) (x3 : Int32) (x4 : Int32) : Option (Int32 × Sg) :=
  lt (x4 + 1) (fun y19 => k115 σ x2 x3 y19)
def fM_foretell_144 (k115 : Sg → Int32 → Int32 → Int32 → Option (Int32 × Sg)) (σ : Sg) (x2 : Int32) (x3 : Int32) (x4 : Int32) (x5 : Int32) (t0 : Int32) : Option (Int32 × Sg) :=
  bi (fM_goes σ t0 0) (fun y14 σ15 => bp (fM_foresees σ15 x4) (fun σ16 => (if (σ16 7 0 46) = ((-2)) then bp (fM_allBlocks σ16) (fun y17 => (if y17 = 0 then lt (upA σ16 7 0 (upd (σ16 7 0) 46 x5)) (fun σ18 => fM_foretell_177 k115 σ18 x2 x3 x4) else fM_foretell_177 k115 σ16 x2 x3 x4)) else fM_foretell_177 k115 σ16 x2 x3 x4)))
def fM_foretell_115_b (k115 : Sg → Int32 → Int32 → Int32 → Option (Int32 × Sg)) (σ : Sg) (x2 : Int32) (x3 : Int32) (x4 : Int32) : Option (Int32 × Sg) :=
  if x3 < x4 then bp (fM_copy σ 5 0) (fun σ10 => bi (fM_ends σ10 x3) (fun y11 σ12 => some (y11, σ12))) else gd (ib 0 6) (lt (σ 7 6 (0 : Int32).toNatClampNeg) (fun y13 => (if y13 ≤ x2 then fM_foretell_144 k115 σ x2 x3 x4 y13 0 else fM_foretell_144 k115 σ x2 x3 x4 y13 (y13 - x2))))
def fM_foretell_115 (n : Nat) (σ : Sg) (x2 : Int32) (x3 : Int32) (x4 : Int32) : Option (Int32 × Sg) := match n with
  | 0 => none
  | n + 1 => fM_foretell_115_b  (fun σ x2 x3 x4 => fM_foretell_115  n σ  x2 x3 x4) σ  x2 x3 x4
def fM_foretell_104 (σ : Sg) (x2 : Int32) (x3 : Int32) (t0 : Int32) : Option (Int32 × Sg) :=
  lt (upA σ 7 0 (upd (σ 7 0) 46 t0)) (fun σ8 => bp (fM_foresees σ8 0) (fun σ9 => fM_foretell_115 FU σ9 x2 x3 1))
def fM_foretell_56 (σ : Sg) (x2 : Int32) (t0 : Int32) : Option (Int32 × Sg) :=
  bp (fM_copy σ 0 5) (fun σ3 => gd (isb 1) (lt (upA σ3 7 0 (upd (σ3 7 0) 47 1)) (fun σ4 => lt (upA σ4 7 0 (upd (σ4 7 0) 44 t0)) (fun σ5 => gd (ib 0 6) (lt (upA σ5 7 0 (upd (σ5 7 0) 45 (σ5 7 7 (0 : Int32).toNatClampNeg))) (fun σ6 => bp (fM_allBlocks σ6) (fun y7 => (if y7 = 0 then gd (ib 0 6) (fM_foretell_104 σ6 x2 t0 ((σ6 7 6 (0 : Int32).toNatClampNeg) - 1)) else fM_foretell_104 σ6 x2 t0 ((-2))))))))))
def fM_foretell_0 (σ : Sg) (v1 : Int32) (v2 : Int32) : Option (Int32 × Sg) :=
  bp (fM_in σ v1 1 200) (fun y1 => (if y1 = 0 then fM_foretell_22 σ else bp (fM_in σ v2 0 199) (fun y2 => (if y2 = 0 then fM_foretell_22 σ else gd (ib 0 6) ((if v1 ≤ (199 - (σ 7 6 (0 : Int32).toNatClampNeg)) then fM_foretell_56 σ v2 v1 else gd (ib 0 6) (fM_foretell_56 σ v2 (199 - (σ 7 6 (0 : Int32).toNatClampNeg)))))))))
def fM_foretell (σ : Sg) (v1 : Int32) (v2 : Int32) : Option (Int32 × Sg) := fM_foretell_0 σ  v1 v2
def fM_foretold_56_b (k56 : Int32 → Int32 → Int32 → Option (Int32)) (σ : Sg) (x2 : Int32) (x3 : Int32) (x4 : Int32) : Option (Int32) :=
  if (σ 7 0 45) ≤ x4 then some x3 else gd (ib ((8 * x2) + x4) 1600) (lt (x3 + (σ 7 48 ((8 * x2) + x4).toNatClampNeg)) (fun y3 => lt (x4 + 1) (fun y4 => k56 x2 y3 y4)))
def fM_foretold_56 (n : Nat) (σ : Sg) (x2 : Int32) (x3 : Int32) (x4 : Int32) : Option (Int32) := match n with
  | 0 => none
  | n + 1 => fM_foretold_56_b  (fun x2 x3 x4 => fM_foretold_56  n σ  x2 x3 x4) σ  x2 x3 x4
def fM_foretold_0 (σ : Sg) (v1 : Int32) (v2 : Int32) : Option (Int32) :=
  if (σ 7 0 47) = 0 then some ((-1)) else bp (fM_in σ v2 0 (σ 7 0 44)) (fun y1 => (if y1 = 0 then some ((-1)) else bp (fM_in σ v1 ((-1)) ((σ 7 0 45) - 1)) (fun y2 => (if y2 = 0 then some ((-1)) else if v1 < 0 then fM_foretold_56 FU σ v2 0 0 else gd (ib ((8 * v2) + v1) 1600) (some (σ 7 48 ((8 * v2) + v1).toNatClampNeg))))))
def fM_foretold (σ : Sg) (v1 : Int32) (v2 : Int32) : Option (Int32) := fM_foretold_0 σ  v1 v2
def fM_last_0 (σ : Sg) : Option (Int32) :=
  if (σ 7 0 47) = 0 then some ((-1)) else some (σ 7 0 46)
def fM_last (σ : Sg) : Option (Int32) := fM_last_0 σ  
def fM_image_0 (σ : Sg) (v1 : Int32) : Option (Int32 × Sg) :=
  bp (fM_in σ v1 0 3) (fun y1 => (if y1 = 0 then bi (fM_ends σ ((-1))) (fun y6 σ7 => some (y6, σ7)) else bp (fM_copy σ 0 (1 + v1)) (fun σ2 => gd (ib v1 4) (lt (upA σ2 7 25 (upd (σ2 7 25) v1.toNatClampNeg (vp_nar .boolean 1))) (fun σ3 => bi (fM_ends σ3 0) (fun y4 σ5 => some (y4, σ5)))))))
def fM_image (σ : Sg) (v1 : Int32) : Option (Int32 × Sg) := fM_image_0 σ  v1
def fM_back_0 (σ : Sg) (v1 : Int32) : Option (Int32 × Sg) :=
  bp (fM_in σ v1 0 3) (fun y1 => (if y1 = 0 then bi (fM_ends σ ((-1))) (fun y9 σ10 => some (y9, σ10)) else gd (ib v1 4) ((if (σ 7 25 v1.toNatClampNeg) = 0 then bi (fM_ends σ ((-2))) (fun y7 σ8 => some (y7, σ8)) else bp (fM_copy σ (1 + v1) 0) (fun σ2 => gd (isb 0) (lt (upA σ2 7 0 (upd (σ2 7 0) 26 0)) (fun σ3 => lt (upA σ3 7 0 (upd (σ3 7 0) 27 0)) (fun σ4 => bi (fM_ends σ4 0) (fun y5 σ6 => some (y5, σ6))))))))))
def fM_back (σ : Sg) (v1 : Int32) : Option (Int32 × Sg) := fM_back_0 σ  v1
def fM_heap_21 (σ : Sg) : Option (Int32 × Sg) :=
  bi (fM_ends σ ((-1))) (fun y10 σ11 => some (y10, σ11))
def fM_heap_0 (σ : Sg) (v1 : Int32) (v2 : Int32) : Option (Int32 × Sg) :=
  bp (fM_in σ v1 0 2) (fun y1 => (if y1 = 0 then fM_heap_21 σ else bp (fM_in σ v2 1000 1000000) (fun y2 => (if y2 = 0 then fM_heap_21 σ else if (σ 7 0 51) = 30 then bi (fM_ends σ ((-6))) (fun y8 σ9 => some (y8, σ9)) else gd (ib (σ 7 0 51) 30) (lt (upA σ 7 49 (upd (σ 7 49) (σ 7 0 51).toNatClampNeg v1)) (fun σ3 => gd (ib (σ3 7 0 51) 30) (lt (upA σ3 7 50 (upd (σ3 7 50) (σ3 7 0 51).toNatClampNeg v2)) (fun σ4 => lt (upA σ4 7 0 (upd (σ4 7 0) 51 ((σ4 7 0 51) + 1))) (fun σ5 => bi (fM_ends σ5 (σ5 7 0 51)) (fun y6 σ7 => some (y6, σ7)))))))))))
def fM_heap (σ : Sg) (v1 : Int32) (v2 : Int32) : Option (Int32 × Sg) := fM_heap_0 σ  v1 v2
def fM_isReady_51 (k15 : Int32 → Int32 → Int32 → Option (Int32)) (σ : Sg) (x1 : Int32) (x3 : Int32) (t0 : Int32) : Option (Int32) :=
  lt (x3 + 1) (fun y5 => k15 x1 t0 y5)
def fM_isReady_50 (k15 : Int32 → Int32 → Int32 → Option (Int32)) (σ : Sg) (x1 : Int32) (x3 : Int32) : Option (Int32) :=
  fM_isReady_51 k15 σ x1 x3 0
def fM_isReady_15_b (k15 : Int32 → Int32 → Int32 → Option (Int32)) (σ : Sg) (x1 : Int32) (x2 : Int32) (x3 : Int32) : Option (Int32) :=
  bp (fM_places σ x1) (fun y1 => (if y1 ≤ x3 then gd (isb x2) (some x2) else if x2 = 0 then fM_isReady_50 k15 σ x1 x3 else bp (fM_isLaid σ x1 x3) (fun y3 => (if y3 = 0 then fM_isReady_50 k15 σ x1 x3 else bp (fM_at σ x1 x3) (fun y4 => (if y4 = 0 then fM_isReady_51 k15 σ x1 x3 1 else fM_isReady_50 k15 σ x1 x3))))))
def fM_isReady_15 (n : Nat) (σ : Sg) (x1 : Int32) (x2 : Int32) (x3 : Int32) : Option (Int32) := match n with
  | 0 => none
  | n + 1 => fM_isReady_15_b  (fun x1 x2 x3 => fM_isReady_15  n σ  x1 x2 x3) σ  x1 x2 x3
def fM_isReady_12 (σ : Sg) (x1 : Int32) (t0 : Int32) : Option (Int32) :=
  fM_isReady_15 FU σ x1 t0 0
def fM_isReady_0 (σ : Sg) (v1 : Int32) : Option (Int32) :=
  if (σ 7 0 51) ≤ 0 then fM_isReady_12 σ v1 0 else fM_isReady_12 σ v1 1
def fM_isReady (σ : Sg) (v1 : Int32) : Option (Int32) := fM_isReady_0 σ  v1
def fM_shut_143 (σ : Sg) (x1 : Int32) (x2 : Int32) (x4 : Int32) (x5 : Int32) : Option (Int32) :=
  bp (fM_places σ x1) (fun y14 => (if y14 ≤ (x2 + x4) then some x5 else gd (ib (x2 + x4) 180) ((if (σ 7 52 (x2 + x4).toNatClampNeg) = 0 then some x5 else lt (x5 + 1) (fun y15 => some y15)))))
def fM_shut_122 (σ : Sg) (x1 : Int32) (x2 : Int32) (x4 : Int32) (x5 : Int32) : Option (Int32) :=
  if x2 < x4 then fM_shut_143 σ x1 x2 x4 x5 else gd (ib (x2 - x4) 180) ((if (σ 7 52 (x2 - x4).toNatClampNeg) = 0 then fM_shut_143 σ x1 x2 x4 x5 else lt (x5 + 1) (fun y13 => fM_shut_143 σ x1 x2 x4 y13)))
def fM_shut_87 (σ : Sg) (x1 : Int32) (x2 : Int32) (x3 : Int32) (x4 : Int32) (x5 : Int32) : Option (Int32) :=
  gd (nzi x3) (gd (ib x1 48) (gd (nzi (σ 7 12 x1.toNatClampNeg)) (gd (ib x1 48) ((if ((σ 7 12 x1.toNatClampNeg) - 1) ≤ ((x2 / x3) - (x2 / x3) / (σ 7 12 x1.toNatClampNeg) * (σ 7 12 x1.toNatClampNeg)) then fM_shut_122 σ x1 x2 x4 x5 else gd (ib (x2 + x3) 180) ((if (σ 7 52 (x2 + x3).toNatClampNeg) = 0 then fM_shut_122 σ x1 x2 x4 x5 else lt (x5 + 1) (fun y12 => fM_shut_122 σ x1 x2 x4 y12))))))))
def fM_shut_60 (σ : Sg) (x1 : Int32) (x2 : Int32) (x3 : Int32) (x4 : Int32) (x5 : Int32) : Option (Int32) :=
  gd (nzi x3) (gd (ib x1 48) (gd (nzi (σ 7 12 x1.toNatClampNeg)) ((if ((x2 / x3) - (x2 / x3) / (σ 7 12 x1.toNatClampNeg) * (σ 7 12 x1.toNatClampNeg)) ≤ 0 then fM_shut_87 σ x1 x2 x3 x4 x5 else gd (ib (x2 - x3) 180) ((if (σ 7 52 (x2 - x3).toNatClampNeg) = 0 then fM_shut_87 σ x1 x2 x3 x4 x5 else lt (x5 + 1) (fun y9 => fM_shut_87 σ x1 x2 x3 x4 y9)))))))
def fM_shut_37 (σ : Sg) (x1 : Int32) (x2 : Int32) (x3 : Int32) (x4 : Int32) (x5 : Int32) : Option (Int32) :=
  gd (nzi x3) ((if (x3 - 1) ≤ (x2 - x2 / x3 * x3) then fM_shut_60 σ x1 x2 x3 x4 x5 else gd (ib (x2 + 1) 180) ((if (σ 7 52 (x2 + 1).toNatClampNeg) = 0 then fM_shut_60 σ x1 x2 x3 x4 x5 else lt (x5 + 1) (fun y6 => fM_shut_60 σ x1 x2 x3 x4 y6)))))
def fM_shut_0 (σ : Sg) (v1 : Int32) (v2 : Int32) : Option (Int32) :=
  gd (ib v1 48) (lt (σ 7 11 v1.toNatClampNeg) (fun y1 => bp (fM_floor σ v1) (fun y2 => gd (nzi y1) ((if (v2 - v2 / y1 * y1) ≤ 0 then fM_shut_37 σ v1 v2 y1 y2 0 else gd (ib (v2 - 1) 180) ((if (σ 7 52 (v2 - 1).toNatClampNeg) = 0 then fM_shut_37 σ v1 v2 y1 y2 0 else lt (0 + 1) (fun y4 => fM_shut_37 σ v1 v2 y1 y2 y4))))))))
def fM_shut (σ : Sg) (v1 : Int32) (v2 : Int32) : Option (Int32) := fM_shut_0 σ  v1 v2
def fM_tries_116 (k88 : Sg → Int32 → Int32 → Int32 → Int32 → Int32 → Int32 → Int32 → Option (Sg)) (σ : Sg) (x1 : Int32) (x2 : Int32) (x3 : Int32) (x4 : Int32) (x5 : Int32) (x6 : Int32) (x8 : Int32) (t0 : Int32) (t1 : Int32) : Option (Sg) :=
  gd (ib t1 180) (lt (upA σ 7 52 (upd (σ 7 52) t1.toNatClampNeg (vp_nar .boolean t0))) (fun σ5 => lt (x8 + 1) (fun y6 => k88 σ5 x1 x2 x3 x4 x5 x6 y6)))
def fM_tries_161 (k129 : Sg → Int32 → Int32 → Int32 → Int32 → Int32 → Int32 → Int32 → Int32 → Option (Sg)) (σ : Sg) (x1 : Int32) (x2 : Int32) (x3 : Int32) (x4 : Int32) (x5 : Int32) (x6 : Int32) (x9 : Int32) (t0 : Int32) (t1 : Int32) : Option (Sg) :=
  lt (t1 + t0) (fun y9 => lt (x9 + 1) (fun y10 => k129 σ x1 x2 x3 x4 x5 x6 y9 y10))
def fM_tries_211 (k23 : Sg → Int32 → Int32 → Int32 → Int32 → Int32 → Int32 → Option (Sg)) (σ : Sg) (x1 : Int32) (x2 : Int32) (x3 : Int32) (x4 : Int32) (x5 : Int32) (x6 : Int32) : Option (Sg) :=
  lt (x6 + 1) (fun y11 => k23 σ x1 x2 x3 x4 x5 y11)
def fM_tries_203 (k23 : Sg → Int32 → Int32 → Int32 → Int32 → Int32 → Int32 → Option (Sg)) (σ : Sg) (x1 : Int32) (x2 : Int32) (x3 : Int32) (x6 : Int32) (x8 : Int32) : Option (Sg) :=
  fM_tries_211 k23 σ x1 x2 x3 x6 x8 x6
def fM_tries_129_b (k23 : Sg → Int32 → Int32 → Int32 → Int32 → Int32 → Int32 → Option (Sg)) (k129 : Sg → Int32 → Int32 → Int32 → Int32 → Int32 → Int32 → Int32 → Int32 → Option (Sg)) (σ : Sg) (x1 : Int32) (x2 : Int32) (x3 : Int32) (x4 : Int32) (x5 : Int32) (x6 : Int32) (x8 : Int32) (x9 : Int32) : Option (Sg) :=
  if x2 ≤ x9 then lt (x6 ^^^ x4) (fun y7 => (if x8 < x5 then fM_tries_203 k23 σ x1 x2 x3 x6 x8 else if x8 = x5 then if ((y7 &&& (-y7)) &&& x6) = 0 then fM_tries_211 k23 σ x1 x2 x3 x4 x5 x6 else fM_tries_203 k23 σ x1 x2 x3 x6 x8 else fM_tries_211 k23 σ x1 x2 x3 x4 x5 x6)) else gd (ib x9 180) ((if (σ 7 52 x9.toNatClampNeg) = 0 then fM_tries_161 k129 σ x1 x2 x3 x4 x5 x6 x9 0 x8 else bp (fM_shut σ x1 x9) (fun y8 => fM_tries_161 k129 σ x1 x2 x3 x4 x5 x6 x9 (6 - y8) x8)))
def fM_tries_129 (k23 : Sg → Int32 → Int32 → Int32 → Int32 → Int32 → Int32 → Option (Sg)) (n : Nat) (σ : Sg) (x1 : Int32) (x2 : Int32) (x3 : Int32) (x4 : Int32) (x5 : Int32) (x6 : Int32) (x8 : Int32) (x9 : Int32) : Option (Sg) := match n with
  | 0 => none
  | n + 1 => fM_tries_129_b k23 (fun σ x1 x2 x3 x4 x5 x6 x8 x9 => fM_tries_129 k23 n σ  x1 x2 x3 x4 x5 x6 x8 x9) σ  x1 x2 x3 x4 x5 x6 x8 x9
def fM_tries_88_b (k23 : Sg → Int32 → Int32 → Int32 → Int32 → Int32 → Int32 → Option (Sg)) (k88 : Sg → Int32 → Int32 → Int32 → Int32 → Int32 → Int32 → Int32 → Option (Sg)) (σ : Sg) (x1 : Int32) (x2 : Int32) (x3 : Int32) (x4 : Int32) (x5 : Int32) (x6 : Int32) (x8 : Int32) : Option (Sg) :=
  if x2 ≤ x8 then fM_tries_129 k23 FU σ x1 x2 x3 x4 x5 x6 0 0 else if ((x6 >>> (x8 &&& 31)) &&& 1) = 1 then fM_tries_116 k88 σ x1 x2 x3 x4 x5 x6 x8 1 x8 else fM_tries_116 k88 σ x1 x2 x3 x4 x5 x6 x8 0 x8
def fM_tries_88 (k23 : Sg → Int32 → Int32 → Int32 → Int32 → Int32 → Int32 → Option (Sg)) (n : Nat) (σ : Sg) (x1 : Int32) (x2 : Int32) (x3 : Int32) (x4 : Int32) (x5 : Int32) (x6 : Int32) (x8 : Int32) : Option (Sg) := match n with
  | 0 => none
  | n + 1 => fM_tries_88_b k23 (fun σ x1 x2 x3 x4 x5 x6 x8 => fM_tries_88 k23 n σ  x1 x2 x3 x4 x5 x6 x8) σ  x1 x2 x3 x4 x5 x6 x8
def fM_tries_37_b (k23 : Sg → Int32 → Int32 → Int32 → Int32 → Int32 → Int32 → Option (Sg)) (k37 : Sg → Int32 → Int32 → Int32 → Int32 → Int32 → Int32 → Int32 → Int32 → Option (Sg)) (σ : Sg) (x1 : Int32) (x2 : Int32) (x3 : Int32) (x4 : Int32) (x5 : Int32) (x6 : Int32) (x7 : Int32) (x8 : Int32) : Option (Sg) :=
  if x2 ≤ x8 then if x7 = (σ 7 0 51) then if ((x6 >>> (x3 &&& 31)) &&& (x6 ^^^ ((-1)))) = 0 then fM_tries_88 k23 FU σ x1 x2 x3 x4 x5 x6 0 else fM_tries_211 k23 σ x1 x2 x3 x4 x5 x6 else fM_tries_211 k23 σ x1 x2 x3 x4 x5 x6 else lt (x7 + ((x6 >>> (x8 &&& 31)) &&& 1)) (fun y3 => lt (x8 + 1) (fun y4 => k37 σ x1 x2 x3 x4 x5 x6 y3 y4))
def fM_tries_37 (k23 : Sg → Int32 → Int32 → Int32 → Int32 → Int32 → Int32 → Option (Sg)) (n : Nat) (σ : Sg) (x1 : Int32) (x2 : Int32) (x3 : Int32) (x4 : Int32) (x5 : Int32) (x6 : Int32) (x7 : Int32) (x8 : Int32) : Option (Sg) := match n with
  | 0 => none
  | n + 1 => fM_tries_37_b k23 (fun σ x1 x2 x3 x4 x5 x6 x7 x8 => fM_tries_37 k23 n σ  x1 x2 x3 x4 x5 x6 x7 x8) σ  x1 x2 x3 x4 x5 x6 x7 x8
def fM_tries_248 (k220 : Sg → Int32 → Int32 → Int32 → Option (Sg)) (σ : Sg) (x2 : Int32) (x4 : Int32) (x6 : Int32) (t0 : Int32) (t1 : Int32) : Option (Sg) :=
  gd (ib t1 180) (lt (upA σ 7 52 (upd (σ 7 52) t1.toNatClampNeg (vp_nar .boolean t0))) (fun σ12 => lt (x6 + 1) (fun y13 => k220 σ12 x2 x4 y13)))
def fM_tries_220_b (k220 : Sg → Int32 → Int32 → Int32 → Option (Sg)) (σ : Sg) (x2 : Int32) (x4 : Int32) (x6 : Int32) : Option (Sg) :=
  if x2 ≤ x6 then some σ else if ((x4 >>> (x6 &&& 31)) &&& 1) = 1 then fM_tries_248 k220 σ x2 x4 x6 1 x6 else fM_tries_248 k220 σ x2 x4 x6 0 x6
def fM_tries_220 (n : Nat) (σ : Sg) (x2 : Int32) (x4 : Int32) (x6 : Int32) : Option (Sg) := match n with
  | 0 => none
  | n + 1 => fM_tries_220_b  (fun σ x2 x4 x6 => fM_tries_220  n σ  x2 x4 x6) σ  x2 x4 x6
def fM_tries_23_b (k23 : Sg → Int32 → Int32 → Int32 → Int32 → Int32 → Int32 → Option (Sg)) (σ : Sg) (x1 : Int32) (x2 : Int32) (x3 : Int32) (x4 : Int32) (x5 : Int32) (x6 : Int32) : Option (Sg) :=
  if (1 <<< (x2 &&& 31)) ≤ x6 then fM_tries_220 FU σ x2 x4 0 else fM_tries_37 k23 FU σ x1 x2 x3 x4 x5 x6 0 0
def fM_tries_23 (n : Nat) (σ : Sg) (x1 : Int32) (x2 : Int32) (x3 : Int32) (x4 : Int32) (x5 : Int32) (x6 : Int32) : Option (Sg) := match n with
  | 0 => none
  | n + 1 => fM_tries_23_b  (fun σ x1 x2 x3 x4 x5 x6 => fM_tries_23  n σ  x1 x2 x3 x4 x5 x6) σ  x1 x2 x3 x4 x5 x6
def fM_tries_0 (σ : Sg) (v1 : Int32) : Option (Sg) :=
  bp (fM_places σ v1) (fun y1 => bp (fM_floor σ v1) (fun y2 => fM_tries_23 FU σ v1 y1 y2 0 1000 0))
def fM_tries (σ : Sg) (v1 : Int32) : Option (Sg) := fM_tries_0 σ  v1
def fM_fills_118 (k56 : Sg → Int32 → Int32 → Int32 → Int32 → Int32 → Int32 → Int32 → Option (Sg)) (σ : Sg) (x1 : Int32) (x2 : Int32) (x3 : Int32) (x4 : Int32) (x5 : Int32) (x6 : Int32) (x7 : Int32) : Option (Sg) :=
  lt (x7 + 1) (fun y9 => k56 σ x1 x2 x3 x4 x5 x6 y9)
def fM_fills_90 (k56 : Sg → Int32 → Int32 → Int32 → Int32 → Int32 → Int32 → Int32 → Option (Sg)) (σ : Sg) (x1 : Int32) (x2 : Int32) (x3 : Int32) (x4 : Int32) (x5 : Int32) (x6 : Int32) (x7 : Int32) : Option (Sg) :=
  bp (fM_shut σ x1 x7) (fun y7 => (if x6 < y7 then bp (fM_shut σ x1 x7) (fun y8 => fM_fills_118 k56 σ x1 x2 x3 x4 x7 y8 x7) else fM_fills_118 k56 σ x1 x2 x3 x4 x5 x6 x7))
def fM_fills_56_b (k38 : Sg → Int32 → Int32 → Int32 → Int32 → Option (Sg)) (k56 : Sg → Int32 → Int32 → Int32 → Int32 → Int32 → Int32 → Int32 → Option (Sg)) (σ : Sg) (x1 : Int32) (x2 : Int32) (x3 : Int32) (x4 : Int32) (x5 : Int32) (x6 : Int32) (x7 : Int32) : Option (Sg) :=
  if x2 ≤ x7 then gd (ib x5 180) (lt (upA σ 7 52 (upd (σ 7 52) x5.toNatClampNeg (vp_nar .boolean 1))) (fun σ5 => lt (x4 + 1) (fun y6 => k38 σ5 x1 x2 x3 y6))) else gd (ib x7 180) ((if (σ 7 52 x7.toNatClampNeg) = 0 then if x7 < x3 then fM_fills_90 k56 σ x1 x2 x3 x4 x5 x6 x7 else gd (ib (x7 - x3) 180) ((if (σ 7 52 (x7 - x3).toNatClampNeg) = 0 then fM_fills_118 k56 σ x1 x2 x3 x4 x5 x6 x7 else fM_fills_90 k56 σ x1 x2 x3 x4 x5 x6 x7)) else fM_fills_118 k56 σ x1 x2 x3 x4 x5 x6 x7))
def fM_fills_56 (k38 : Sg → Int32 → Int32 → Int32 → Int32 → Option (Sg)) (n : Nat) (σ : Sg) (x1 : Int32) (x2 : Int32) (x3 : Int32) (x4 : Int32) (x5 : Int32) (x6 : Int32) (x7 : Int32) : Option (Sg) := match n with
  | 0 => none
  | n + 1 => fM_fills_56_b k38 (fun σ x1 x2 x3 x4 x5 x6 x7 => fM_fills_56 k38 n σ  x1 x2 x3 x4 x5 x6 x7) σ  x1 x2 x3 x4 x5 x6 x7
def fM_fills_38_b (k38 : Sg → Int32 → Int32 → Int32 → Int32 → Option (Sg)) (σ : Sg) (x1 : Int32) (x2 : Int32) (x3 : Int32) (x4 : Int32) : Option (Sg) :=
  if (σ 7 0 51) ≤ x4 then some σ else fM_fills_56 k38 FU σ x1 x2 x3 x4 ((-1)) ((-1)) 0
def fM_fills_38 (n : Nat) (σ : Sg) (x1 : Int32) (x2 : Int32) (x3 : Int32) (x4 : Int32) : Option (Sg) := match n with
  | 0 => none
  | n + 1 => fM_fills_38_b  (fun σ x1 x2 x3 x4 => fM_fills_38  n σ  x1 x2 x3 x4) σ  x1 x2 x3 x4
def fM_fills_15_b (k15 : Sg → Int32 → Int32 → Int32 → Int32 → Option (Sg)) (σ : Sg) (x1 : Int32) (x2 : Int32) (x3 : Int32) (x4 : Int32) : Option (Sg) :=
  if x2 ≤ x4 then fM_fills_38 FU σ x1 x2 x3 0 else gd (ib x4 180) (lt (upA σ 7 52 (upd (σ 7 52) x4.toNatClampNeg (vp_nar .boolean 0))) (fun σ3 => lt (x4 + 1) (fun y4 => k15 σ3 x1 x2 x3 y4)))
def fM_fills_15 (n : Nat) (σ : Sg) (x1 : Int32) (x2 : Int32) (x3 : Int32) (x4 : Int32) : Option (Sg) := match n with
  | 0 => none
  | n + 1 => fM_fills_15_b  (fun σ x1 x2 x3 x4 => fM_fills_15  n σ  x1 x2 x3 x4) σ  x1 x2 x3 x4
def fM_fills_0 (σ : Sg) (v1 : Int32) : Option (Sg) :=
  bp (fM_places σ v1) (fun y1 => bp (fM_floor σ v1) (fun y2 => fM_fills_15 FU σ v1 y1 y2 0))
def fM_fills (σ : Sg) (v1 : Int32) : Option (Sg) := fM_fills_0 σ  v1
def fM_pack_44 (σ : Sg) : Option (Int32 × Sg) :=
  bi (fM_ends σ ((-6))) (fun y19 σ20 => some (y19, σ20))
def fM_pack_165 (k122 : Sg → Int32 → Int32 → Int32 → Option (Int32 × Sg)) (σ : Sg) (x1 : Int32) (x2 : Int32) (x3 : Int32) : Option (Int32 × Sg) :=
  lt (x3 + 1) (fun y17 => k122 σ x1 x2 y17)
def fM_pack_122_b (k122 : Sg → Int32 → Int32 → Int32 → Option (Int32 × Sg)) (σ : Sg) (x1 : Int32) (x2 : Int32) (x3 : Int32) : Option (Int32 × Sg) :=
  bp (fM_places σ x1) (fun y9 => (if y9 ≤ x3 then lt (upA σ 7 0 (upd (σ 7 0) 51 0)) (fun σ10 => bp (fM_rooms σ10 x1 10) (fun y11 => bi (fM_ends σ10 y11) (fun y12 σ13 => some (y12, σ13)))) else gd (ib x3 180) ((if (σ 7 52 x3.toNatClampNeg) = 0 then fM_pack_165 k122 σ x1 x2 x3 else gd (ib x2 30) (gd (ib x2 30) (bi (fM_cuts σ x1 x3 (σ 7 49 x2.toNatClampNeg) (σ 7 50 x2.toNatClampNeg)) (fun y14 σ15 => lt (x2 + 1) (fun y16 => fM_pack_165 k122 σ15 x1 y16 x3))))))))
def fM_pack_122 (n : Nat) (σ : Sg) (x1 : Int32) (x2 : Int32) (x3 : Int32) : Option (Int32 × Sg) := match n with
  | 0 => none
  | n + 1 => fM_pack_122_b  (fun σ x1 x2 x3 => fM_pack_122  n σ  x1 x2 x3) σ  x1 x2 x3
def fM_pack_118 (σ : Sg) (x1 : Int32) : Option (Int32 × Sg) :=
  fM_pack_122 FU σ x1 0 0
def fM_pack_113 (σ : Sg) (x1 : Int32) : Option (Int32 × Sg) :=
  bp (fM_fills σ x1) (fun σ18 => fM_pack_118 σ18 x1)
def fM_pack_0 (σ : Sg) (v1 : Int32) : Option (Int32 × Sg) :=
  bp (fM_isRoom σ v1) (fun y1 => (if y1 = 0 then bi (fM_ends σ ((-2))) (fun y7 σ8 => some (y7, σ8)) else bp (fM_places σ v1) (fun y2 => (if y2 < (σ 7 0 51) then fM_pack_44 σ else gd (ib 0 6) ((if ((σ 7 8 (0 : Int32).toNatClampNeg) + (σ 7 0 51)) ≤ 300 then bp (fM_isReady σ v1) (fun y3 => (if y3 = 0 then bi (fM_ends σ ((-7))) (fun y5 σ6 => some (y5, σ6)) else if 8 < (σ 7 0 51) then fM_pack_113 σ v1 else gd (ib v1 48) ((if 3 < (σ 7 11 v1.toNatClampNeg) then fM_pack_113 σ v1 else gd (ib v1 48) ((if 3 < (σ 7 12 v1.toNatClampNeg) then fM_pack_113 σ v1 else gd (ib v1 48) ((if 2 < (σ 7 13 v1.toNatClampNeg) then fM_pack_113 σ v1 else bp (fM_tries σ v1) (fun σ4 => fM_pack_118 σ4 v1))))))))) else fM_pack_44 σ))))))
def fM_pack (σ : Sg) (v1 : Int32) : Option (Int32 × Sg) := fM_pack_0 σ  v1
def fM_days_4_b (k4 : Int32 → Int32 → Option (Int32)) (σ : Sg) (x1 : Int32) (x2 : Int32) : Option (Int32) :=
  if (σ 7 0 34) ≤ x2 then some x1 else gd (ib x2 6) (lt (x1 + (σ 7 33 x2.toNatClampNeg)) (fun y1 => lt (x2 + 1) (fun y2 => k4 y1 y2)))
def fM_days_4 (n : Nat) (σ : Sg) (x1 : Int32) (x2 : Int32) : Option (Int32) := match n with
  | 0 => none
  | n + 1 => fM_days_4_b  (fun x1 x2 => fM_days_4  n σ  x1 x2) σ  x1 x2
def fM_days_0 (σ : Sg) : Option (Int32) :=
  fM_days_4 FU σ 0 0
def fM_days (σ : Sg) : Option (Int32) := fM_days_0 σ  
def fM_all_4_b (k4 : Int32 → Int32 → Option (Int32)) (σ : Sg) (as0 : Nat) (ak0 : Nat) (an0 : Nat) (x2 : Int32) (x3 : Int32) : Option (Int32) :=
  gd (ib 0 6) ((if (σ 7 7 (0 : Int32).toNatClampNeg) ≤ x3 then some x2 else gd (ib x3 an0) (lt (x2 + (σ as0 ak0 x3.toNatClampNeg)) (fun y1 => lt (x3 + 1) (fun y2 => k4 y1 y2)))))
def fM_all_4 (n : Nat) (σ : Sg) (as0 : Nat) (ak0 : Nat) (an0 : Nat) (x2 : Int32) (x3 : Int32) : Option (Int32) := match n with
  | 0 => none
  | n + 1 => fM_all_4_b  (fun x2 x3 => fM_all_4  n σ as0 ak0 an0 x2 x3) σ as0 ak0 an0 x2 x3
def fM_all_0 (σ : Sg) (as0 : Nat) (ak0 : Nat) (an0 : Nat) : Option (Int32) :=
  fM_all_4 FU σ as0 ak0 an0 0 0
def fM_all (σ : Sg) (as0 : Nat) (ak0 : Nat) (an0 : Nat) : Option (Int32) := fM_all_0 σ as0 ak0 an0 
def fM_count_0 (σ : Sg) (v1 : Int32) : Option (Int32) :=
  if v1 = 0 then gd (ib 0 6) (some (σ 7 6 (0 : Int32).toNatClampNeg)) else (if v1 = 1 then gd (ib 0 36) (some (σ 7 9 (0 : Int32).toNatClampNeg)) else (if v1 = 2 then bp (fM_weight σ ((-1))) (fun y1 => some y1) else (if v1 = 3 then gd (ib 1 36) (some (σ 7 9 (1 : Int32).toNatClampNeg)) else (if v1 = 4 then gd (ib 2 36) (some (σ 7 9 (2 : Int32).toNatClampNeg)) else (if v1 = 5 then gd (ib 3 36) (some (σ 7 9 (3 : Int32).toNatClampNeg)) else (if v1 = 6 then bp (fM_all σ 7 15 48) (fun y2 => some y2) else (if v1 = 7 then bp (fM_all σ 7 16 48) (fun y3 => some y3) else (if v1 = 8 then gd (ib 0 6) (some (σ 7 8 (0 : Int32).toNatClampNeg)) else (if v1 = 9 then bp (fM_allBlocks σ) (fun y4 => some y4) else (if v1 = 10 then gd (ib 0 6) (some (σ 7 7 (0 : Int32).toNatClampNeg)) else (if v1 = 11 then some (σ 7 0 34) else (if v1 = 12 then bp (fM_days σ) (fun y5 => some y5) else (if v1 = 13 then some (σ 7 0 27) else (if v1 = 14 then some (σ 7 0 51) else (if v1 = 15 then some (σ 7 0 36) else (some ((-1))))))))))))))))))
def fM_count (σ : Sg) (v1 : Int32) : Option (Int32) := fM_count_0 σ  v1
def fM_status_0 (σ : Sg) : Option (Int32) :=
  some (σ 7 0 0)
def fM_status (σ : Sg) : Option (Int32) := fM_status_0 σ  

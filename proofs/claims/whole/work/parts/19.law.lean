/-! the law's cases and its loop (by program) -/
def fL_c0 (xs : Nat → Int32) (L : Nat) (i_ : Int32) (σ τ : zz_St) (o : Nat → Int64) : Option (Option zz_LS) :=
  (zz_ga xs L (i_ + (1 : Int32))).bind fun x1 =>
  (zz_ga xs L (i_ + (2 : Int32))).bind fun x3 =>
  (zz_ga xs L (i_ + (3 : Int32))).bind fun x5 =>
  (zz_ga xs L (i_ + (4 : Int32))).bind fun x7 =>
  (fL_addPiece σ o x1 x3 x5 x7).bind fun x9 =>
  (zz_ga xs L (i_ + (1 : Int32))).bind fun x11 =>
  (zz_ga xs L (i_ + (2 : Int32))).bind fun x13 =>
  (zz_ga xs L (i_ + (3 : Int32))).bind fun x15 =>
  (zz_ga xs L (i_ + (4 : Int32))).bind fun x17 =>
  (fX8_addPiece τ x11 x13 x15 x17).bind fun x19 =>
  (fX8_thrown x19.2).bind fun x21 =>
  if x21 = x9.1 then
    (if x9.1 = 0 then
      (some (lg_cmp (x9.2.2 0) x19.1.toInt64)).bind fun x30 =>
      if x30 = 0 then
        some false
      else
        some true
    else
      some false).bind fun b24 =>
    if b24 = true then
      some none
    else
      some (some (x9.2.1, x19.2, x9.2.2))
  else
    some none
def fL_c1 (xs : Nat → Int32) (L : Nat) (i_ : Int32) (σ τ : zz_St) (o : Nat → Int64) : Option (Option zz_LS) :=
  (zz_ga xs L (i_ + (1 : Int32))).bind fun x1 =>
  (zz_ga xs L (i_ + (2 : Int32))).bind fun x3 =>
  (zz_ga xs L (i_ + (3 : Int32))).bind fun x5 =>
  (fL_setNames σ o x1 x3 x5).bind fun x7 =>
  (zz_ga xs L (i_ + (1 : Int32))).bind fun x9 =>
  (zz_ga xs L (i_ + (2 : Int32))).bind fun x11 =>
  (zz_ga xs L (i_ + (3 : Int32))).bind fun x13 =>
  (fX8_setNames τ x9 x11 x13).bind fun x15 =>
  (fX8_thrown x15.2).bind fun x17 =>
  if x17 = x7.1 then
    (if x7.1 = 0 then
      (some (lg_cmp (x7.2.2 0) x15.1.toInt64)).bind fun x26 =>
      if x26 = 0 then
        some false
      else
        some true
    else
      some false).bind fun b20 =>
    if b20 = true then
      some none
    else
      some (some (x7.2.1, x15.2, x7.2.2))
  else
    some none
def fL_c2 (xs : Nat → Int32) (L : Nat) (i_ : Int32) (σ τ : zz_St) (o : Nat → Int64) : Option (Option zz_LS) :=
  (zz_ga xs L (i_ + (1 : Int32))).bind fun x1 =>
  (zz_ga xs L (i_ + (2 : Int32))).bind fun x3 =>
  (fL_names σ o x1 x3).bind fun x5 =>
  (zz_ga xs L (i_ + (1 : Int32))).bind fun x7 =>
  (zz_ga xs L (i_ + (2 : Int32))).bind fun x9 =>
  (fX8_names τ x7 x9).bind fun x11 =>
  (fX8_thrown x11.2).bind fun x13 =>
  if x13 = x5.1 then
    (if x5.1 = 0 then
      (some (lg_cmp (x5.2.2 0) x11.1.toInt64)).bind fun x22 =>
      if x22 = 0 then
        some false
      else
        some true
    else
      some false).bind fun b16 =>
    if b16 = true then
      some none
    else
      some (some (x5.2.1, x11.2, x5.2.2))
  else
    some none
def fL_c3 (xs : Nat → Int32) (L : Nat) (i_ : Int32) (σ τ : zz_St) (o : Nat → Int64) : Option (Option zz_LS) :=
  (zz_ga xs L (i_ + (1 : Int32))).bind fun x1 =>
  ((zz_ga xs L (i_ + (2 : Int32))).bind fun x6 =>
  if x6 = 0 then
    some false
  else
    some true).bind fun b3 =>
  (zz_ga xs L (i_ + (3 : Int32))).bind fun x9 =>
  (fL_setName σ o x1 (zz_bi b3) x9).bind fun x11 =>
  (zz_ga xs L (i_ + (1 : Int32))).bind fun x13 =>
  ((zz_ga xs L (i_ + (2 : Int32))).bind fun x18 =>
  if x18 = 0 then
    some false
  else
    some true).bind fun b15 =>
  (zz_ga xs L (i_ + (3 : Int32))).bind fun x21 =>
  (fX8_setName τ x13 (zz_bi b15) x21).bind fun x23 =>
  (fX8_thrown x23.2).bind fun x25 =>
  if x25 = x11.1 then
    (if x11.1 = 0 then
      (if x23.1 = 0 then
        some (0 : Int64)
      else
        some (1 : Int64)).bind fun x34 =>
      (some (lg_cmp (x11.2.2 0) x34)).bind fun x38 =>
      if x38 = 0 then
        some false
      else
        some true
    else
      some false).bind fun b28 =>
    if b28 = true then
      some none
    else
      some (some (x11.2.1, x23.2, x11.2.2))
  else
    some none
def fL_c4 (xs : Nat → Int32) (L : Nat) (i_ : Int32) (σ τ : zz_St) (o : Nat → Int64) : Option (Option zz_LS) :=
  (fL_dropPiece σ o).bind fun x1 =>
  (fX8_dropPiece τ).bind fun x3 =>
  (fX8_thrown x3.2).bind fun x5 =>
  if x5 = x1.1 then
    (if x1.1 = 0 then
      (some (lg_cmp (x1.2.2 0) x3.1.toInt64)).bind fun x14 =>
      if x14 = 0 then
        some false
      else
        some true
    else
      some false).bind fun b8 =>
    if b8 = true then
      some none
    else
      some (some (x1.2.1, x3.2, x1.2.2))
  else
    some none
def fL_c5 (xs : Nat → Int32) (L : Nat) (i_ : Int32) (σ τ : zz_St) (o : Nat → Int64) : Option (Option zz_LS) :=
  (fX7_pieceCount σ).bind fun x1 =>
  (fX8_pieceCount τ).bind fun x3 =>
  if x1 = x3.1 then
    some (some (σ, x3.2, o))
  else
    some none
def fL_c6 (xs : Nat → Int32) (L : Nat) (i_ : Int32) (σ τ : zz_St) (o : Nat → Int64) : Option (Option zz_LS) :=
  (zz_ga xs L (i_ + (1 : Int32))).bind fun x1 =>
  (zz_ga xs L (i_ + (2 : Int32))).bind fun x3 =>
  (fL_setWeight σ o x1 x3).bind fun x5 =>
  (zz_ga xs L (i_ + (1 : Int32))).bind fun x7 =>
  (zz_ga xs L (i_ + (2 : Int32))).bind fun x9 =>
  (fX8_setWeight τ x7 x9).bind fun x11 =>
  (fX8_thrown x11.2).bind fun x13 =>
  if x13 = x5.1 then
    (if x5.1 = 0 then
      (some (lg_cmp (x5.2.2 0) x11.1.toInt64)).bind fun x22 =>
      if x22 = 0 then
        some false
      else
        some true
    else
      some false).bind fun b16 =>
    if b16 = true then
      some none
    else
      some (some (x5.2.1, x11.2, x5.2.2))
  else
    some none
def fL_c7 (xs : Nat → Int32) (L : Nat) (i_ : Int32) (σ τ : zz_St) (o : Nat → Int64) : Option (Option zz_LS) :=
  (zz_ga xs L (i_ + (1 : Int32))).bind fun x1 =>
  (fL_setSpan σ o x1).bind fun x3 =>
  (zz_ga xs L (i_ + (1 : Int32))).bind fun x5 =>
  (fX8_setSpan τ x5).bind fun x7 =>
  (fX8_thrown x7.2).bind fun x9 =>
  if x9 = x3.1 then
    (if x3.1 = 0 then
      (some (lg_cmp (x3.2.2 0) x7.1.toInt64)).bind fun x18 =>
      if x18 = 0 then
        some false
      else
        some true
    else
      some false).bind fun b12 =>
    if b12 = true then
      some none
    else
      some (some (x3.2.1, x7.2, x3.2.2))
  else
    some none
def fL_c8 (xs : Nat → Int32) (L : Nat) (i_ : Int32) (σ τ : zz_St) (o : Nat → Int64) : Option (Option zz_LS) :=
  (zz_ga xs L (i_ + (1 : Int32))).bind fun x1 =>
  (zz_ga xs L (i_ + (2 : Int32))).bind fun x3 =>
  (zz_ga xs L (i_ + (3 : Int32))).bind fun x5 =>
  (fL_points σ o x1 x3 x5).bind fun x7 =>
  (zz_ga xs L (i_ + (1 : Int32))).bind fun x9 =>
  (zz_ga xs L (i_ + (2 : Int32))).bind fun x11 =>
  (zz_ga xs L (i_ + (3 : Int32))).bind fun x13 =>
  (fX8_points τ x9 x11 x13).bind fun x15 =>
  (fX8_thrown x15.2).bind fun x17 =>
  if x17 = x7.1 then
    (if x7.1 = 0 then
      (some (lg_cmp (x7.2.2 0) x15.1.toInt64)).bind fun x26 =>
      if x26 = 0 then
        some false
      else
        some true
    else
      some false).bind fun b20 =>
    if b20 = true then
      some none
    else
      some (some (x7.2.1, x15.2, x7.2.2))
  else
    some none
def fL_c9 (xs : Nat → Int32) (L : Nat) (i_ : Int32) (σ τ : zz_St) (o : Nat → Int64) : Option (Option zz_LS) :=
  (zz_ga xs L (i_ + (1 : Int32))).bind fun x1 =>
  (zz_ga xs L (i_ + (2 : Int32))).bind fun x3 =>
  (fL_affinity σ o x1 x3).bind fun x5 =>
  (zz_ga xs L (i_ + (1 : Int32))).bind fun x7 =>
  (zz_ga xs L (i_ + (2 : Int32))).bind fun x9 =>
  (fX8_affinity τ x7 x9).bind fun x11 =>
  (fX8_thrown x11.2).bind fun x13 =>
  if x13 = x5.1 then
    (if x5.1 = 0 then
      (some (lg_cmp (x5.2.2 0) x11.1.toInt64)).bind fun x22 =>
      if x22 = 0 then
        some false
      else
        some true
    else
      some false).bind fun b16 =>
    if b16 = true then
      some none
    else
      some (some (x5.2.1, x11.2, x5.2.2))
  else
    some none
def fL_c10 (xs : Nat → Int32) (L : Nat) (i_ : Int32) (σ τ : zz_St) (o : Nat → Int64) : Option (Option zz_LS) :=
  (zz_ga xs L (i_ + (1 : Int32))).bind fun x1 =>
  (fL_closest σ o x1).bind fun x3 =>
  (zz_ga xs L (i_ + (1 : Int32))).bind fun x5 =>
  (fX8_closest τ x5).bind fun x7 =>
  (fX8_thrown x7.2).bind fun x9 =>
  if x9 = x3.1 then
    (if x3.1 = 0 then
      (some (lg_cmp (x3.2.2 0) x7.1.toInt64)).bind fun x18 =>
      if x18 = 0 then
        some false
      else
        some true
    else
      some false).bind fun b12 =>
    if b12 = true then
      some none
    else
      some (some (x3.2.1, x7.2, x3.2.2))
  else
    some none
def fL_c11 (xs : Nat → Int32) (L : Nat) (i_ : Int32) (σ τ : zz_St) (o : Nat → Int64) : Option (Option zz_LS) :=
  (zz_ga xs L (i_ + (1 : Int32))).bind fun x1 =>
  (fL_setThreshold σ o x1).bind fun x3 =>
  (zz_ga xs L (i_ + (1 : Int32))).bind fun x5 =>
  (fX8_setThreshold τ x5).bind fun x7 =>
  (fX8_thrown x7.2).bind fun x9 =>
  if x9 = x3.1 then
    (if x3.1 = 0 then
      (some (lg_cmp (x3.2.2 0) x7.1.toInt64)).bind fun x18 =>
      if x18 = 0 then
        some false
      else
        some true
    else
      some false).bind fun b12 =>
    if b12 = true then
      some none
    else
      some (some (x3.2.1, x7.2, x3.2.2))
  else
    some none
def fL_c12 (xs : Nat → Int32) (L : Nat) (i_ : Int32) (σ τ : zz_St) (o : Nat → Int64) : Option (Option zz_LS) :=
  (zz_ga xs L (i_ + (1 : Int32))).bind fun x1 =>
  (fL_setManner σ o x1).bind fun x3 =>
  (zz_ga xs L (i_ + (1 : Int32))).bind fun x5 =>
  (fX8_setManner τ x5).bind fun x7 =>
  (fX8_thrown x7.2).bind fun x9 =>
  if x9 = x3.1 then
    (if x3.1 = 0 then
      (some (lg_cmp (x3.2.2 0) x7.1.toInt64)).bind fun x18 =>
      if x18 = 0 then
        some false
      else
        some true
    else
      some false).bind fun b12 =>
    if b12 = true then
      some none
    else
      some (some (x3.2.1, x7.2, x3.2.2))
  else
    some none
def fL_c13 (xs : Nat → Int32) (L : Nat) (i_ : Int32) (σ τ : zz_St) (o : Nat → Int64) : Option (Option zz_LS) :=
  (zz_ga xs L (i_ + (1 : Int32))).bind fun x1 =>
  (zz_ga xs L (i_ + (2 : Int32))).bind fun x3 =>
  (zz_ga xs L (i_ + (3 : Int32))).bind fun x5 =>
  (fL_say σ o x1 x3 x5).bind fun x7 =>
  (zz_ga xs L (i_ + (1 : Int32))).bind fun x9 =>
  (zz_ga xs L (i_ + (2 : Int32))).bind fun x11 =>
  (zz_ga xs L (i_ + (3 : Int32))).bind fun x13 =>
  (fX8_say τ x9 x11 x13).bind fun x15 =>
  (fX8_thrown x15.2).bind fun x17 =>
  if x17 = x7.1 then
    (if x7.1 = 0 then
      (some (lg_cmp (x7.2.2 0) x15.1.toInt64)).bind fun x26 =>
      if x26 = 0 then
        some false
      else
        some true
    else
      some false).bind fun b20 =>
    if b20 = true then
      some none
    else
      some (some (x7.2.1, x15.2, x7.2.2))
  else
    some none
def fL_c14 (xs : Nat → Int32) (L : Nat) (i_ : Int32) (σ τ : zz_St) (o : Nat → Int64) : Option (Option zz_LS) :=
  (fX7_groupCount σ).bind fun x1 =>
  (fX8_groupCount τ).bind fun x3 =>
  if x1.1 = x3.1 then
    some (some (x1.2, x3.2, o))
  else
    some none
def fL_c15 (xs : Nat → Int32) (L : Nat) (i_ : Int32) (σ τ : zz_St) (o : Nat → Int64) : Option (Option zz_LS) :=
  (zz_ga xs L (i_ + (1 : Int32))).bind fun x1 =>
  (fL_group σ o x1).bind fun x3 =>
  (zz_ga xs L (i_ + (1 : Int32))).bind fun x5 =>
  (fX8_group τ x5).bind fun x7 =>
  (fX8_thrown x7.2).bind fun x9 =>
  if x9 = x3.1 then
    (if x3.1 = 0 then
      (some (lg_cmp (x3.2.2 0) x7.1.toInt64)).bind fun x18 =>
      if x18 = 0 then
        some false
      else
        some true
    else
      some false).bind fun b12 =>
    if b12 = true then
      some none
    else
      some (some (x3.2.1, x7.2, x3.2.2))
  else
    some none
def fL_c16 (xs : Nat → Int32) (L : Nat) (i_ : Int32) (σ τ : zz_St) (o : Nat → Int64) : Option (Option zz_LS) :=
  (zz_ga xs L (i_ + (1 : Int32))).bind fun x1 =>
  (fL_groupOf σ o x1).bind fun x3 =>
  (zz_ga xs L (i_ + (1 : Int32))).bind fun x5 =>
  (fX8_groupOf τ x5).bind fun x7 =>
  (fX8_thrown x7.2).bind fun x9 =>
  if x9 = x3.1 then
    (if x3.1 = 0 then
      (some (lg_cmp (x3.2.2 0) x7.1.toInt64)).bind fun x18 =>
      if x18 = 0 then
        some false
      else
        some true
    else
      some false).bind fun b12 =>
    if b12 = true then
      some none
    else
      some (some (x3.2.1, x7.2, x3.2.2))
  else
    some none
def fL_c17 (xs : Nat → Int32) (L : Nat) (i_ : Int32) (σ τ : zz_St) (o : Nat → Int64) : Option (Option zz_LS) :=
  (zz_ga xs L (i_ + (1 : Int32))).bind fun x1 =>
  (zz_ga xs L (i_ + (2 : Int32))).bind fun x3 =>
  (fL_linkage σ o x1 x3).bind fun x5 =>
  (zz_ga xs L (i_ + (1 : Int32))).bind fun x7 =>
  (zz_ga xs L (i_ + (2 : Int32))).bind fun x9 =>
  (fX8_linkage τ x7 x9).bind fun x11 =>
  (fX8_thrown x11.2).bind fun x13 =>
  if x13 = x5.1 then
    (if x5.1 = 0 then
      (some (lg_cmp (x5.2.2 0) x11.1.toInt64)).bind fun x22 =>
      if x22 = 0 then
        some false
      else
        some true
    else
      some false).bind fun b16 =>
    if b16 = true then
      some none
    else
      some (some (x5.2.1, x11.2, x5.2.2))
  else
    some none
def fL_c18 (xs : Nat → Int32) (L : Nat) (i_ : Int32) (σ τ : zz_St) (o : Nat → Int64) : Option (Option zz_LS) :=
  (fX7_lastLinkage σ).bind fun x1 =>
  (fX8_lastLinkage τ).bind fun x3 =>
  if x1.1 = x3.1 then
    some (some (x1.2, x3.2, o))
  else
    some none
def fL_c19 (xs : Nat → Int32) (L : Nat) (i_ : Int32) (σ τ : zz_St) (o : Nat → Int64) : Option (Option zz_LS) :=
  (zz_ga xs L (i_ + (1 : Int32))).bind fun x1 =>
  (zz_ga xs L (i_ + (2 : Int32))).bind fun x3 =>
  (fL_needs σ o x1 x3).bind fun x5 =>
  (zz_ga xs L (i_ + (1 : Int32))).bind fun x7 =>
  (zz_ga xs L (i_ + (2 : Int32))).bind fun x9 =>
  (fX8_needs τ x7 x9).bind fun x11 =>
  (fX8_thrown x11.2).bind fun x13 =>
  if x13 = x5.1 then
    (if x5.1 = 0 then
      (if x11.1 = 0 then
        some (0 : Int64)
      else
        some (1 : Int64)).bind fun x22 =>
      (some (lg_cmp (x5.2.2 0) x22)).bind fun x26 =>
      if x26 = 0 then
        some false
      else
        some true
    else
      some false).bind fun b16 =>
    if b16 = true then
      some none
    else
      some (some (x5.2.1, x11.2, x5.2.2))
  else
    some none
def fL_c20 (xs : Nat → Int32) (L : Nat) (i_ : Int32) (σ τ : zz_St) (o : Nat → Int64) : Option (Option zz_LS) :=
  (fX7_parcelCount σ).bind fun x1 =>
  (fX8_parcelCount τ).bind fun x3 =>
  if x1.1 = x3.1 then
    some (some (x1.2, x3.2, o))
  else
    some none
def fL_c21 (xs : Nat → Int32) (L : Nat) (i_ : Int32) (σ τ : zz_St) (o : Nat → Int64) : Option (Option zz_LS) :=
  (zz_ga xs L (i_ + (1 : Int32))).bind fun x1 =>
  (fL_parcel σ o x1).bind fun x3 =>
  (zz_ga xs L (i_ + (1 : Int32))).bind fun x5 =>
  (fX8_parcel τ x5).bind fun x7 =>
  (fX8_thrown x7.2).bind fun x9 =>
  if x9 = x3.1 then
    (if x3.1 = 0 then
      (some (lg_cmp (x3.2.2 0) x7.1.toInt64)).bind fun x18 =>
      if x18 = 0 then
        some false
      else
        some true
    else
      some false).bind fun b12 =>
    if b12 = true then
      some none
    else
      some (some (x3.2.1, x7.2, x3.2.2))
  else
    some none
def fL_c22 (xs : Nat → Int32) (L : Nat) (i_ : Int32) (σ τ : zz_St) (o : Nat → Int64) : Option (Option zz_LS) :=
  (zz_ga xs L (i_ + (1 : Int32))).bind fun x1 =>
  (fL_parcelOf σ o x1).bind fun x3 =>
  (zz_ga xs L (i_ + (1 : Int32))).bind fun x5 =>
  (fX8_parcelOf τ x5).bind fun x7 =>
  (fX8_thrown x7.2).bind fun x9 =>
  if x9 = x3.1 then
    (if x3.1 = 0 then
      (some (lg_cmp (x3.2.2 0) x7.1.toInt64)).bind fun x18 =>
      if x18 = 0 then
        some false
      else
        some true
    else
      some false).bind fun b12 =>
    if b12 = true then
      some none
    else
      some (some (x3.2.1, x7.2, x3.2.2))
  else
    some none
def fL_c23 (xs : Nat → Int32) (L : Nat) (i_ : Int32) (σ τ : zz_St) (o : Nat → Int64) : Option (Option zz_LS) :=
  (fX7_knots σ).bind fun x1 =>
  (fX8_knots τ).bind fun x3 =>
  if x1.1 = x3.1 then
    some (some (x1.2, x3.2, o))
  else
    some none
def fL_c24 (xs : Nat → Int32) (L : Nat) (i_ : Int32) (σ τ : zz_St) (o : Nat → Int64) : Option (Option zz_LS) :=
  (zz_ga xs L (i_ + (1 : Int32))).bind fun x1 =>
  (fL_lines σ o x1).bind fun x3 =>
  (zz_ga xs L (i_ + (1 : Int32))).bind fun x5 =>
  (fX8_lines τ x5).bind fun x7 =>
  (fX8_thrown x7.2).bind fun x9 =>
  if x9 = x3.1 then
    (if x3.1 = 0 then
      (some (lg_cmp (x3.2.2 0) x7.1.toInt64)).bind fun x18 =>
      if x18 = 0 then
        some false
      else
        some true
    else
      some false).bind fun b12 =>
    if b12 = true then
      some none
    else
      some (some (x3.2.1, x7.2, x3.2.2))
  else
    some none
def fL_c25 (xs : Nat → Int32) (L : Nat) (i_ : Int32) (σ τ : zz_St) (o : Nat → Int64) : Option (Option zz_LS) :=
  (zz_ga xs L (i_ + (1 : Int32))).bind fun x1 =>
  (fL_broken σ o x1).bind fun x3 =>
  (zz_ga xs L (i_ + (1 : Int32))).bind fun x5 =>
  (fX8_broken τ x5).bind fun x7 =>
  (fX8_thrown x7.2).bind fun x9 =>
  if x9 = x3.1 then
    (if x3.1 = 0 then
      (some (lg_cmp (x3.2.2 0) x7.1.toInt64)).bind fun x18 =>
      if x18 = 0 then
        some false
      else
        some true
    else
      some false).bind fun b12 =>
    if b12 = true then
      some none
    else
      some (some (x3.2.1, x7.2, x3.2.2))
  else
    some none
def fL_c26 (xs : Nat → Int32) (L : Nat) (i_ : Int32) (σ τ : zz_St) (o : Nat → Int64) : Option (Option zz_LS) :=
  (fX7_breakage σ).bind fun x1 =>
  (fX8_breakage τ).bind fun x3 =>
  if x1.1 = x3.1 then
    some (some (x1.2, x3.2, o))
  else
    some none
def fL_c27 (xs : Nat → Int32) (L : Nat) (i_ : Int32) (σ τ : zz_St) (o : Nat → Int64) : Option (Option zz_LS) :=
  (fL_leastBreakage σ o).bind fun x1 =>
  (fX8_leastBreakage τ).bind fun x3 =>
  (fX8_thrown x3.2).bind fun x5 =>
  if x5 = x1.1 then
    (if x1.1 = 0 then
      (some (lg_cmp (x1.2.2 0) x3.1.toInt64)).bind fun x14 =>
      if x14 = 0 then
        some false
      else
        some true
    else
      some false).bind fun b8 =>
    if b8 = true then
      some none
    else
      some (some (x1.2.1, x3.2, x1.2.2))
  else
    some none
def fL_c28 (xs : Nat → Int32) (L : Nat) (i_ : Int32) (σ τ : zz_St) (o : Nat → Int64) : Option (Option zz_LS) :=
  (zz_ga xs L (i_ + (1 : Int32))).bind fun x1 =>
  (fL_best σ o x1).bind fun x3 =>
  (zz_ga xs L (i_ + (1 : Int32))).bind fun x5 =>
  (fX8_best τ x5).bind fun x7 =>
  (fX8_thrown x7.2).bind fun x9 =>
  if x9 = x3.1 then
    (if x3.1 = 0 then
      (some (lg_cmp (x3.2.2 0) x7.1.toInt64)).bind fun x18 =>
      if x18 = 0 then
        some false
      else
        some true
    else
      some false).bind fun b12 =>
    if b12 = true then
      some none
    else
      some (some (x3.2.1, x7.2, x3.2.2))
  else
    some none
def fL_c29 (xs : Nat → Int32) (L : Nat) (i_ : Int32) (σ τ : zz_St) (o : Nat → Int64) : Option (Option zz_LS) :=
  (zz_ga xs L (i_ + (1 : Int32))).bind fun x1 =>
  (zz_ga xs L (i_ + (2 : Int32))).bind fun x3 =>
  (fL_setPurpose σ o x1 x3).bind fun x5 =>
  (zz_ga xs L (i_ + (1 : Int32))).bind fun x7 =>
  (zz_ga xs L (i_ + (2 : Int32))).bind fun x9 =>
  (fX8_setPurpose τ x7 x9).bind fun x11 =>
  (fX8_thrown x11.2).bind fun x13 =>
  if x13 = x5.1 then
    (if x5.1 = 0 then
      (some (lg_cmp (x5.2.2 0) x11.1.toInt64)).bind fun x22 =>
      if x22 = 0 then
        some false
      else
        some true
    else
      some false).bind fun b16 =>
    if b16 = true then
      some none
    else
      some (some (x5.2.1, x11.2, x5.2.2))
  else
    some none
def fL_c30 (xs : Nat → Int32) (L : Nat) (i_ : Int32) (σ τ : zz_St) (o : Nat → Int64) : Option (Option zz_LS) :=
  (fX7_agreement σ).bind fun x1 =>
  (fX8_agreement τ).bind fun x3 =>
  ((some (Op.cmpValue (FP.dcmp x1.1 x3.1) .l)).bind fun x10 =>
  if x10 = 0 then
    some false
  else
    (some (Op.cmpValue (FP.dcmp x1.1 x1.1) .l)).bind fun x13 =>
    if x13 = 0 then
      some true
    else
      (some (Op.cmpValue (FP.dcmp x3.1 x3.1) .l)).bind fun x16 =>
      if x16 = 0 then
        some true
      else
        some false).bind fun b5 =>
  if b5 = true then
    some none
  else
    some (some (x1.2, x3.2, o))
def fL_c31 (xs : Nat → Int32) (L : Nat) (i_ : Int32) (σ τ : zz_St) (o : Nat → Int64) : Option (Option zz_LS) :=
  (fX7_digest σ).bind fun x1 =>
  (fX8_digest τ).bind fun x3 =>
  (some (lg_cmp x1.1 x3.1)).bind fun x5 =>
  if x5 = 0 then
    some (some (x1.2, x3.2, o))
  else
    some none
def fL_sw (xs : Nat → Int32) (L : Nat) (y i_ : Int32) (S : zz_LS) : Option (Option zz_LS) :=
  if y = (0 : Int32) then fL_c0 xs L i_ S.1 S.2.1 S.2.2 else
  if y = (1 : Int32) then fL_c1 xs L i_ S.1 S.2.1 S.2.2 else
  if y = (2 : Int32) then fL_c2 xs L i_ S.1 S.2.1 S.2.2 else
  if y = (3 : Int32) then fL_c3 xs L i_ S.1 S.2.1 S.2.2 else
  if y = (4 : Int32) then fL_c4 xs L i_ S.1 S.2.1 S.2.2 else
  if y = (5 : Int32) then fL_c5 xs L i_ S.1 S.2.1 S.2.2 else
  if y = (6 : Int32) then fL_c6 xs L i_ S.1 S.2.1 S.2.2 else
  if y = (7 : Int32) then fL_c7 xs L i_ S.1 S.2.1 S.2.2 else
  if y = (8 : Int32) then fL_c8 xs L i_ S.1 S.2.1 S.2.2 else
  if y = (9 : Int32) then fL_c9 xs L i_ S.1 S.2.1 S.2.2 else
  if y = (10 : Int32) then fL_c10 xs L i_ S.1 S.2.1 S.2.2 else
  if y = (11 : Int32) then fL_c11 xs L i_ S.1 S.2.1 S.2.2 else
  if y = (12 : Int32) then fL_c12 xs L i_ S.1 S.2.1 S.2.2 else
  if y = (13 : Int32) then fL_c13 xs L i_ S.1 S.2.1 S.2.2 else
  if y = (14 : Int32) then fL_c14 xs L i_ S.1 S.2.1 S.2.2 else
  if y = (15 : Int32) then fL_c15 xs L i_ S.1 S.2.1 S.2.2 else
  if y = (16 : Int32) then fL_c16 xs L i_ S.1 S.2.1 S.2.2 else
  if y = (17 : Int32) then fL_c17 xs L i_ S.1 S.2.1 S.2.2 else
  if y = (18 : Int32) then fL_c18 xs L i_ S.1 S.2.1 S.2.2 else
  if y = (19 : Int32) then fL_c19 xs L i_ S.1 S.2.1 S.2.2 else
  if y = (20 : Int32) then fL_c20 xs L i_ S.1 S.2.1 S.2.2 else
  if y = (21 : Int32) then fL_c21 xs L i_ S.1 S.2.1 S.2.2 else
  if y = (22 : Int32) then fL_c22 xs L i_ S.1 S.2.1 S.2.2 else
  if y = (23 : Int32) then fL_c23 xs L i_ S.1 S.2.1 S.2.2 else
  if y = (24 : Int32) then fL_c24 xs L i_ S.1 S.2.1 S.2.2 else
  if y = (25 : Int32) then fL_c25 xs L i_ S.1 S.2.1 S.2.2 else
  if y = (26 : Int32) then fL_c26 xs L i_ S.1 S.2.1 S.2.2 else
  if y = (27 : Int32) then fL_c27 xs L i_ S.1 S.2.1 S.2.2 else
  if y = (28 : Int32) then fL_c28 xs L i_ S.1 S.2.1 S.2.2 else
  if y = (29 : Int32) then fL_c29 xs L i_ S.1 S.2.1 S.2.2 else
  if y = (30 : Int32) then fL_c30 xs L i_ S.1 S.2.1 S.2.2 else
  if y = (31 : Int32) then fL_c31 xs L i_ S.1 S.2.1 S.2.2 else
  some (some S)
def fL_loop (xs : Nat → Int32) (L : Nat) : Nat → Int32 → zz_LS → Option (Option zz_LS)
  | 0, _, _ => none
  | n + 1, i_, S =>
    if ((Int32.ofNat L) - (5 : Int32)) < i_ then some (some S) else
    (zz_ga xs L i_).bind fun x =>
    (fL_sw xs L (x &&& (31 : Int32)) i_ S).bind fun r =>
    match r with
    | none => some none
    | some S1 => fL_loop xs L n (i_ + (5 : Int32)) S1
theorem dL_law_0 : decode code 0 = .ok (.new 8, 3) := by decide +kernel
theorem dL_law_3 : decode code 3 = .ok (.dup, 1) := by decide +kernel
theorem dL_law_4 : decode code 4 = .ok (.invokespecial 94, 3) := by decide +kernel
theorem dL_law_7 : decode code 7 = .ok (.astore_n 1, 1) := by decide +kernel
theorem dL_law_8 : decode code 8 = .ok (.new 95, 3) := by decide +kernel
theorem dL_law_11 : decode code 11 = .ok (.dup, 1) := by decide +kernel
theorem dL_law_12 : decode code 12 = .ok (.invokespecial 97, 3) := by decide +kernel
theorem dL_law_15 : decode code 15 = .ok (.astore_n 2, 1) := by decide +kernel
theorem dL_law_16 : decode code 16 = .ok (.iconst 1, 1) := by decide +kernel
theorem dL_law_17 : decode code 17 = .ok (.newarray .long, 2) := by decide +kernel
theorem dL_law_19 : decode code 19 = .ok (.astore_n 3, 1) := by decide +kernel
theorem dL_law_20 : decode code 20 = .ok (.iconst 0, 1) := by decide +kernel
theorem dL_law_21 : decode code 21 = .ok (.istore 4, 2) := by decide +kernel
theorem dL_law_23 : decode code 23 = .ok (.iload 4, 2) := by decide +kernel
theorem dL_law_25 : decode code 25 = .ok (.aload_n 0, 1) := by decide +kernel
theorem dL_law_26 : decode code 26 = .ok (.arraylength, 1) := by decide +kernel
theorem dL_law_27 : decode code 27 = .ok (.iconst 5, 1) := by decide +kernel
theorem dL_law_28 : decode code 28 = .ok (.isub, 1) := by decide +kernel
theorem dL_law_29 : decode code 29 = .ok (.if_icmp .gt 1844, 3) := by decide +kernel
theorem dL_law_32 : decode code 32 = .ok (.aload_n 0, 1) := by decide +kernel
theorem dL_law_33 : decode code 33 = .ok (.iload 4, 2) := by decide +kernel
theorem dL_law_35 : decode code 35 = .ok (.iaload, 1) := by decide +kernel
theorem dL_law_36 : decode code 36 = .ok (.bipush 31, 2) := by decide +kernel
theorem dL_law_38 : decode code 38 = .ok (.iand, 1) := by decide +kernel
theorem dL_law_39 : decode code 39 = .ok (.tableswitch 1828 0 31 #[141, 233, 313, 381, 484, 528, 541, 609, 665, 745, 813, 869, 925, 981, 1061, 1074, 1130, 1186, 1254, 1267, 1342, 1355, 1411, 1467, 1480, 1536, 1592, 1605, 1649, 1705, 1773, 1814], 141) := by decide +kernel
theorem dL_law_180 : decode code 180 = .ok (.aload_n 1, 1) := by decide +kernel
theorem dL_law_181 : decode code 181 = .ok (.aload_n 0, 1) := by decide +kernel
theorem dL_law_182 : decode code 182 = .ok (.iload 4, 2) := by decide +kernel
theorem dL_law_184 : decode code 184 = .ok (.iconst 1, 1) := by decide +kernel
theorem dL_law_185 : decode code 185 = .ok (.iadd, 1) := by decide +kernel
theorem dL_law_186 : decode code 186 = .ok (.iaload, 1) := by decide +kernel
theorem dL_law_187 : decode code 187 = .ok (.aload_n 0, 1) := by decide +kernel
theorem dL_law_188 : decode code 188 = .ok (.iload 4, 2) := by decide +kernel
theorem dL_law_190 : decode code 190 = .ok (.iconst 2, 1) := by decide +kernel
theorem dL_law_191 : decode code 191 = .ok (.iadd, 1) := by decide +kernel
theorem dL_law_192 : decode code 192 = .ok (.iaload, 1) := by decide +kernel
theorem dL_law_193 : decode code 193 = .ok (.aload_n 0, 1) := by decide +kernel
theorem dL_law_194 : decode code 194 = .ok (.iload 4, 2) := by decide +kernel
theorem dL_law_196 : decode code 196 = .ok (.iconst 3, 1) := by decide +kernel
theorem dL_law_197 : decode code 197 = .ok (.iadd, 1) := by decide +kernel
theorem dL_law_198 : decode code 198 = .ok (.iaload, 1) := by decide +kernel
theorem dL_law_199 : decode code 199 = .ok (.aload_n 0, 1) := by decide +kernel
theorem dL_law_200 : decode code 200 = .ok (.iload 4, 2) := by decide +kernel
theorem dL_law_202 : decode code 202 = .ok (.iconst 4, 1) := by decide +kernel
theorem dL_law_203 : decode code 203 = .ok (.iadd, 1) := by decide +kernel
theorem dL_law_204 : decode code 204 = .ok (.iaload, 1) := by decide +kernel
theorem dL_law_205 : decode code 205 = .ok (.aload_n 3, 1) := by decide +kernel
theorem dL_law_206 : decode code 206 = .ok (.invokestatic 98, 3) := by decide +kernel
theorem dL_law_209 : decode code 209 = .ok (.istore 5, 2) := by decide +kernel
theorem dL_law_211 : decode code 211 = .ok (.aload_n 2, 1) := by decide +kernel
theorem dL_law_212 : decode code 212 = .ok (.aload_n 0, 1) := by decide +kernel
theorem dL_law_213 : decode code 213 = .ok (.iload 4, 2) := by decide +kernel
theorem dL_law_215 : decode code 215 = .ok (.iconst 1, 1) := by decide +kernel
theorem dL_law_216 : decode code 216 = .ok (.iadd, 1) := by decide +kernel
theorem dL_law_217 : decode code 217 = .ok (.iaload, 1) := by decide +kernel
theorem dL_law_218 : decode code 218 = .ok (.aload_n 0, 1) := by decide +kernel
theorem dL_law_219 : decode code 219 = .ok (.iload 4, 2) := by decide +kernel
theorem dL_law_221 : decode code 221 = .ok (.iconst 2, 1) := by decide +kernel
theorem dL_law_222 : decode code 222 = .ok (.iadd, 1) := by decide +kernel
theorem dL_law_223 : decode code 223 = .ok (.iaload, 1) := by decide +kernel
theorem dL_law_224 : decode code 224 = .ok (.aload_n 0, 1) := by decide +kernel
theorem dL_law_225 : decode code 225 = .ok (.iload 4, 2) := by decide +kernel
theorem dL_law_227 : decode code 227 = .ok (.iconst 3, 1) := by decide +kernel
theorem dL_law_228 : decode code 228 = .ok (.iadd, 1) := by decide +kernel
theorem dL_law_229 : decode code 229 = .ok (.iaload, 1) := by decide +kernel
theorem dL_law_230 : decode code 230 = .ok (.aload_n 0, 1) := by decide +kernel
theorem dL_law_231 : decode code 231 = .ok (.iload 4, 2) := by decide +kernel
theorem dL_law_233 : decode code 233 = .ok (.iconst 4, 1) := by decide +kernel
theorem dL_law_234 : decode code 234 = .ok (.iadd, 1) := by decide +kernel
theorem dL_law_235 : decode code 235 = .ok (.iaload, 1) := by decide +kernel
theorem dL_law_236 : decode code 236 = .ok (.invokevirtual 103, 3) := by decide +kernel
theorem dL_law_239 : decode code 239 = .ok (.istore 6, 2) := by decide +kernel
theorem dL_law_241 : decode code 241 = .ok (.aload_n 2, 1) := by decide +kernel
theorem dL_law_242 : decode code 242 = .ok (.invokevirtual 104, 3) := by decide +kernel
theorem dL_law_245 : decode code 245 = .ok (.iload 5, 2) := by decide +kernel
theorem dL_law_247 : decode code 247 = .ok (.if_icmp .eq 5, 3) := by decide +kernel
theorem dL_law_250 : decode code 250 = .ok (.iconst 0, 1) := by decide +kernel
theorem dL_law_251 : decode code 251 = .ok (.ireturn, 1) := by decide +kernel
theorem dL_law_252 : decode code 252 = .ok (.iload 5, 2) := by decide +kernel
theorem dL_law_254 : decode code 254 = .ok (.ifCond .ne 15, 3) := by decide +kernel
theorem dL_law_257 : decode code 257 = .ok (.aload_n 3, 1) := by decide +kernel
theorem dL_law_258 : decode code 258 = .ok (.iconst 0, 1) := by decide +kernel
theorem dL_law_259 : decode code 259 = .ok (.laload, 1) := by decide +kernel
theorem dL_law_260 : decode code 260 = .ok (.iload 6, 2) := by decide +kernel
theorem dL_law_262 : decode code 262 = .ok (.i2l, 1) := by decide +kernel
theorem dL_law_263 : decode code 263 = .ok (.lcmp, 1) := by decide +kernel
theorem dL_law_264 : decode code 264 = .ok (.ifCond .eq 5, 3) := by decide +kernel
theorem dL_law_267 : decode code 267 = .ok (.iconst 0, 1) := by decide +kernel
theorem dL_law_268 : decode code 268 = .ok (.ireturn, 1) := by decide +kernel
theorem dL_law_269 : decode code 269 = .ok (.goto 1598, 3) := by decide +kernel
theorem dL_law_272 : decode code 272 = .ok (.aload_n 1, 1) := by decide +kernel
theorem dL_law_273 : decode code 273 = .ok (.aload_n 0, 1) := by decide +kernel
theorem dL_law_274 : decode code 274 = .ok (.iload 4, 2) := by decide +kernel
theorem dL_law_276 : decode code 276 = .ok (.iconst 1, 1) := by decide +kernel
theorem dL_law_277 : decode code 277 = .ok (.iadd, 1) := by decide +kernel
theorem dL_law_278 : decode code 278 = .ok (.iaload, 1) := by decide +kernel
theorem dL_law_279 : decode code 279 = .ok (.aload_n 0, 1) := by decide +kernel
theorem dL_law_280 : decode code 280 = .ok (.iload 4, 2) := by decide +kernel
theorem dL_law_282 : decode code 282 = .ok (.iconst 2, 1) := by decide +kernel
theorem dL_law_283 : decode code 283 = .ok (.iadd, 1) := by decide +kernel
theorem dL_law_284 : decode code 284 = .ok (.iaload, 1) := by decide +kernel
theorem dL_law_285 : decode code 285 = .ok (.aload_n 0, 1) := by decide +kernel
theorem dL_law_286 : decode code 286 = .ok (.iload 4, 2) := by decide +kernel
theorem dL_law_288 : decode code 288 = .ok (.iconst 3, 1) := by decide +kernel
theorem dL_law_289 : decode code 289 = .ok (.iadd, 1) := by decide +kernel
theorem dL_law_290 : decode code 290 = .ok (.iaload, 1) := by decide +kernel
theorem dL_law_291 : decode code 291 = .ok (.aload_n 3, 1) := by decide +kernel
theorem dL_law_292 : decode code 292 = .ok (.invokestatic 107, 3) := by decide +kernel
theorem dL_law_295 : decode code 295 = .ok (.istore 5, 2) := by decide +kernel
theorem dL_law_297 : decode code 297 = .ok (.aload_n 2, 1) := by decide +kernel
theorem dL_law_298 : decode code 298 = .ok (.aload_n 0, 1) := by decide +kernel
theorem dL_law_299 : decode code 299 = .ok (.iload 4, 2) := by decide +kernel
theorem dL_law_301 : decode code 301 = .ok (.iconst 1, 1) := by decide +kernel
theorem dL_law_302 : decode code 302 = .ok (.iadd, 1) := by decide +kernel
theorem dL_law_303 : decode code 303 = .ok (.iaload, 1) := by decide +kernel
theorem dL_law_304 : decode code 304 = .ok (.aload_n 0, 1) := by decide +kernel
theorem dL_law_305 : decode code 305 = .ok (.iload 4, 2) := by decide +kernel
theorem dL_law_307 : decode code 307 = .ok (.iconst 2, 1) := by decide +kernel
theorem dL_law_308 : decode code 308 = .ok (.iadd, 1) := by decide +kernel
theorem dL_law_309 : decode code 309 = .ok (.iaload, 1) := by decide +kernel
theorem dL_law_310 : decode code 310 = .ok (.aload_n 0, 1) := by decide +kernel
theorem dL_law_311 : decode code 311 = .ok (.iload 4, 2) := by decide +kernel
theorem dL_law_313 : decode code 313 = .ok (.iconst 3, 1) := by decide +kernel
theorem dL_law_314 : decode code 314 = .ok (.iadd, 1) := by decide +kernel
theorem dL_law_315 : decode code 315 = .ok (.iaload, 1) := by decide +kernel
theorem dL_law_316 : decode code 316 = .ok (.invokevirtual 110, 3) := by decide +kernel
theorem dL_law_319 : decode code 319 = .ok (.istore 6, 2) := by decide +kernel
theorem dL_law_321 : decode code 321 = .ok (.aload_n 2, 1) := by decide +kernel
theorem dL_law_322 : decode code 322 = .ok (.invokevirtual 104, 3) := by decide +kernel
theorem dL_law_325 : decode code 325 = .ok (.iload 5, 2) := by decide +kernel
theorem dL_law_327 : decode code 327 = .ok (.if_icmp .eq 5, 3) := by decide +kernel
theorem dL_law_330 : decode code 330 = .ok (.iconst 0, 1) := by decide +kernel
theorem dL_law_331 : decode code 331 = .ok (.ireturn, 1) := by decide +kernel
theorem dL_law_332 : decode code 332 = .ok (.iload 5, 2) := by decide +kernel
theorem dL_law_334 : decode code 334 = .ok (.ifCond .ne 15, 3) := by decide +kernel
theorem dL_law_337 : decode code 337 = .ok (.aload_n 3, 1) := by decide +kernel
theorem dL_law_338 : decode code 338 = .ok (.iconst 0, 1) := by decide +kernel
theorem dL_law_339 : decode code 339 = .ok (.laload, 1) := by decide +kernel
theorem dL_law_340 : decode code 340 = .ok (.iload 6, 2) := by decide +kernel
theorem dL_law_342 : decode code 342 = .ok (.i2l, 1) := by decide +kernel
theorem dL_law_343 : decode code 343 = .ok (.lcmp, 1) := by decide +kernel
theorem dL_law_344 : decode code 344 = .ok (.ifCond .eq 5, 3) := by decide +kernel
theorem dL_law_347 : decode code 347 = .ok (.iconst 0, 1) := by decide +kernel
theorem dL_law_348 : decode code 348 = .ok (.ireturn, 1) := by decide +kernel
theorem dL_law_349 : decode code 349 = .ok (.goto 1518, 3) := by decide +kernel
theorem dL_law_352 : decode code 352 = .ok (.aload_n 1, 1) := by decide +kernel
theorem dL_law_353 : decode code 353 = .ok (.aload_n 0, 1) := by decide +kernel
theorem dL_law_354 : decode code 354 = .ok (.iload 4, 2) := by decide +kernel
theorem dL_law_356 : decode code 356 = .ok (.iconst 1, 1) := by decide +kernel
theorem dL_law_357 : decode code 357 = .ok (.iadd, 1) := by decide +kernel
theorem dL_law_358 : decode code 358 = .ok (.iaload, 1) := by decide +kernel
theorem dL_law_359 : decode code 359 = .ok (.aload_n 0, 1) := by decide +kernel
theorem dL_law_360 : decode code 360 = .ok (.iload 4, 2) := by decide +kernel
theorem dL_law_362 : decode code 362 = .ok (.iconst 2, 1) := by decide +kernel
theorem dL_law_363 : decode code 363 = .ok (.iadd, 1) := by decide +kernel
theorem dL_law_364 : decode code 364 = .ok (.iaload, 1) := by decide +kernel
theorem dL_law_365 : decode code 365 = .ok (.aload_n 3, 1) := by decide +kernel
theorem dL_law_366 : decode code 366 = .ok (.invokestatic 111, 3) := by decide +kernel
theorem dL_law_369 : decode code 369 = .ok (.istore 5, 2) := by decide +kernel
theorem dL_law_371 : decode code 371 = .ok (.aload_n 2, 1) := by decide +kernel
theorem dL_law_372 : decode code 372 = .ok (.aload_n 0, 1) := by decide +kernel
theorem dL_law_373 : decode code 373 = .ok (.iload 4, 2) := by decide +kernel
theorem dL_law_375 : decode code 375 = .ok (.iconst 1, 1) := by decide +kernel
theorem dL_law_376 : decode code 376 = .ok (.iadd, 1) := by decide +kernel
theorem dL_law_377 : decode code 377 = .ok (.iaload, 1) := by decide +kernel
theorem dL_law_378 : decode code 378 = .ok (.aload_n 0, 1) := by decide +kernel
theorem dL_law_379 : decode code 379 = .ok (.iload 4, 2) := by decide +kernel
theorem dL_law_381 : decode code 381 = .ok (.iconst 2, 1) := by decide +kernel
theorem dL_law_382 : decode code 382 = .ok (.iadd, 1) := by decide +kernel
theorem dL_law_383 : decode code 383 = .ok (.iaload, 1) := by decide +kernel
theorem dL_law_384 : decode code 384 = .ok (.invokevirtual 114, 3) := by decide +kernel
theorem dL_law_387 : decode code 387 = .ok (.istore 6, 2) := by decide +kernel
theorem dL_law_389 : decode code 389 = .ok (.aload_n 2, 1) := by decide +kernel
theorem dL_law_390 : decode code 390 = .ok (.invokevirtual 104, 3) := by decide +kernel
theorem dL_law_393 : decode code 393 = .ok (.iload 5, 2) := by decide +kernel
theorem dL_law_395 : decode code 395 = .ok (.if_icmp .eq 5, 3) := by decide +kernel
theorem dL_law_398 : decode code 398 = .ok (.iconst 0, 1) := by decide +kernel
theorem dL_law_399 : decode code 399 = .ok (.ireturn, 1) := by decide +kernel
theorem dL_law_400 : decode code 400 = .ok (.iload 5, 2) := by decide +kernel
theorem dL_law_402 : decode code 402 = .ok (.ifCond .ne 15, 3) := by decide +kernel
theorem dL_law_405 : decode code 405 = .ok (.aload_n 3, 1) := by decide +kernel
theorem dL_law_406 : decode code 406 = .ok (.iconst 0, 1) := by decide +kernel
theorem dL_law_407 : decode code 407 = .ok (.laload, 1) := by decide +kernel
theorem dL_law_408 : decode code 408 = .ok (.iload 6, 2) := by decide +kernel
theorem dL_law_410 : decode code 410 = .ok (.i2l, 1) := by decide +kernel
theorem dL_law_411 : decode code 411 = .ok (.lcmp, 1) := by decide +kernel
theorem dL_law_412 : decode code 412 = .ok (.ifCond .eq 5, 3) := by decide +kernel
theorem dL_law_415 : decode code 415 = .ok (.iconst 0, 1) := by decide +kernel
theorem dL_law_416 : decode code 416 = .ok (.ireturn, 1) := by decide +kernel
theorem dL_law_417 : decode code 417 = .ok (.goto 1450, 3) := by decide +kernel
theorem dL_law_420 : decode code 420 = .ok (.aload_n 1, 1) := by decide +kernel
theorem dL_law_421 : decode code 421 = .ok (.aload_n 0, 1) := by decide +kernel
theorem dL_law_422 : decode code 422 = .ok (.iload 4, 2) := by decide +kernel
theorem dL_law_424 : decode code 424 = .ok (.iconst 1, 1) := by decide +kernel
theorem dL_law_425 : decode code 425 = .ok (.iadd, 1) := by decide +kernel
theorem dL_law_426 : decode code 426 = .ok (.iaload, 1) := by decide +kernel
theorem dL_law_427 : decode code 427 = .ok (.aload_n 0, 1) := by decide +kernel
theorem dL_law_428 : decode code 428 = .ok (.iload 4, 2) := by decide +kernel
theorem dL_law_430 : decode code 430 = .ok (.iconst 2, 1) := by decide +kernel
theorem dL_law_431 : decode code 431 = .ok (.iadd, 1) := by decide +kernel
theorem dL_law_432 : decode code 432 = .ok (.iaload, 1) := by decide +kernel
theorem dL_law_433 : decode code 433 = .ok (.ifCond .eq 7, 3) := by decide +kernel
theorem dL_law_436 : decode code 436 = .ok (.iconst 1, 1) := by decide +kernel
theorem dL_law_437 : decode code 437 = .ok (.goto 4, 3) := by decide +kernel
theorem dL_law_440 : decode code 440 = .ok (.iconst 0, 1) := by decide +kernel
theorem dL_law_441 : decode code 441 = .ok (.aload_n 0, 1) := by decide +kernel
theorem dL_law_442 : decode code 442 = .ok (.iload 4, 2) := by decide +kernel
theorem dL_law_444 : decode code 444 = .ok (.iconst 3, 1) := by decide +kernel
theorem dL_law_445 : decode code 445 = .ok (.iadd, 1) := by decide +kernel
theorem dL_law_446 : decode code 446 = .ok (.iaload, 1) := by decide +kernel
theorem dL_law_447 : decode code 447 = .ok (.aload_n 3, 1) := by decide +kernel
theorem dL_law_448 : decode code 448 = .ok (.invokestatic 115, 3) := by decide +kernel
theorem dL_law_451 : decode code 451 = .ok (.istore 5, 2) := by decide +kernel
theorem dL_law_453 : decode code 453 = .ok (.aload_n 2, 1) := by decide +kernel
theorem dL_law_454 : decode code 454 = .ok (.aload_n 0, 1) := by decide +kernel
theorem dL_law_455 : decode code 455 = .ok (.iload 4, 2) := by decide +kernel
theorem dL_law_457 : decode code 457 = .ok (.iconst 1, 1) := by decide +kernel
theorem dL_law_458 : decode code 458 = .ok (.iadd, 1) := by decide +kernel
theorem dL_law_459 : decode code 459 = .ok (.iaload, 1) := by decide +kernel
theorem dL_law_460 : decode code 460 = .ok (.aload_n 0, 1) := by decide +kernel
theorem dL_law_461 : decode code 461 = .ok (.iload 4, 2) := by decide +kernel
theorem dL_law_463 : decode code 463 = .ok (.iconst 2, 1) := by decide +kernel
theorem dL_law_464 : decode code 464 = .ok (.iadd, 1) := by decide +kernel
theorem dL_law_465 : decode code 465 = .ok (.iaload, 1) := by decide +kernel
theorem dL_law_466 : decode code 466 = .ok (.ifCond .eq 7, 3) := by decide +kernel
theorem dL_law_469 : decode code 469 = .ok (.iconst 1, 1) := by decide +kernel
theorem dL_law_470 : decode code 470 = .ok (.goto 4, 3) := by decide +kernel
theorem dL_law_473 : decode code 473 = .ok (.iconst 0, 1) := by decide +kernel
theorem dL_law_474 : decode code 474 = .ok (.aload_n 0, 1) := by decide +kernel
theorem dL_law_475 : decode code 475 = .ok (.iload 4, 2) := by decide +kernel
theorem dL_law_477 : decode code 477 = .ok (.iconst 3, 1) := by decide +kernel
theorem dL_law_478 : decode code 478 = .ok (.iadd, 1) := by decide +kernel
theorem dL_law_479 : decode code 479 = .ok (.iaload, 1) := by decide +kernel
theorem dL_law_480 : decode code 480 = .ok (.invokevirtual 118, 3) := by decide +kernel
theorem dL_law_483 : decode code 483 = .ok (.istore 6, 2) := by decide +kernel
theorem dL_law_485 : decode code 485 = .ok (.aload_n 2, 1) := by decide +kernel
theorem dL_law_486 : decode code 486 = .ok (.invokevirtual 104, 3) := by decide +kernel
theorem dL_law_489 : decode code 489 = .ok (.iload 5, 2) := by decide +kernel
theorem dL_law_491 : decode code 491 = .ok (.if_icmp .eq 5, 3) := by decide +kernel
theorem dL_law_494 : decode code 494 = .ok (.iconst 0, 1) := by decide +kernel
theorem dL_law_495 : decode code 495 = .ok (.ireturn, 1) := by decide +kernel
theorem dL_law_496 : decode code 496 = .ok (.iload 5, 2) := by decide +kernel
theorem dL_law_498 : decode code 498 = .ok (.ifCond .ne 22, 3) := by decide +kernel
theorem dL_law_501 : decode code 501 = .ok (.aload_n 3, 1) := by decide +kernel
theorem dL_law_502 : decode code 502 = .ok (.iconst 0, 1) := by decide +kernel
theorem dL_law_503 : decode code 503 = .ok (.laload, 1) := by decide +kernel
theorem dL_law_504 : decode code 504 = .ok (.iload 6, 2) := by decide +kernel
theorem dL_law_506 : decode code 506 = .ok (.ifCond .eq 7, 3) := by decide +kernel
theorem dL_law_509 : decode code 509 = .ok (.lconst 1, 1) := by decide +kernel
theorem dL_law_510 : decode code 510 = .ok (.goto 4, 3) := by decide +kernel
theorem dL_law_513 : decode code 513 = .ok (.lconst 0, 1) := by decide +kernel
theorem dL_law_514 : decode code 514 = .ok (.lcmp, 1) := by decide +kernel
theorem dL_law_515 : decode code 515 = .ok (.ifCond .eq 5, 3) := by decide +kernel
theorem dL_law_518 : decode code 518 = .ok (.iconst 0, 1) := by decide +kernel
theorem dL_law_519 : decode code 519 = .ok (.ireturn, 1) := by decide +kernel
theorem dL_law_520 : decode code 520 = .ok (.goto 1347, 3) := by decide +kernel
theorem dL_law_523 : decode code 523 = .ok (.aload_n 1, 1) := by decide +kernel
theorem dL_law_524 : decode code 524 = .ok (.aload_n 3, 1) := by decide +kernel
theorem dL_law_525 : decode code 525 = .ok (.invokestatic 119, 3) := by decide +kernel
theorem dL_law_528 : decode code 528 = .ok (.istore 5, 2) := by decide +kernel
theorem dL_law_530 : decode code 530 = .ok (.aload_n 2, 1) := by decide +kernel
theorem dL_law_531 : decode code 531 = .ok (.invokevirtual 122, 3) := by decide +kernel
theorem dL_law_534 : decode code 534 = .ok (.istore 6, 2) := by decide +kernel
theorem dL_law_536 : decode code 536 = .ok (.aload_n 2, 1) := by decide +kernel
theorem dL_law_537 : decode code 537 = .ok (.invokevirtual 104, 3) := by decide +kernel
theorem dL_law_540 : decode code 540 = .ok (.iload 5, 2) := by decide +kernel
theorem dL_law_542 : decode code 542 = .ok (.if_icmp .eq 5, 3) := by decide +kernel
theorem dL_law_545 : decode code 545 = .ok (.iconst 0, 1) := by decide +kernel
theorem dL_law_546 : decode code 546 = .ok (.ireturn, 1) := by decide +kernel
theorem dL_law_547 : decode code 547 = .ok (.iload 5, 2) := by decide +kernel
theorem dL_law_549 : decode code 549 = .ok (.ifCond .ne 15, 3) := by decide +kernel
theorem dL_law_552 : decode code 552 = .ok (.aload_n 3, 1) := by decide +kernel
theorem dL_law_553 : decode code 553 = .ok (.iconst 0, 1) := by decide +kernel
theorem dL_law_554 : decode code 554 = .ok (.laload, 1) := by decide +kernel
theorem dL_law_555 : decode code 555 = .ok (.iload 6, 2) := by decide +kernel
theorem dL_law_557 : decode code 557 = .ok (.i2l, 1) := by decide +kernel
theorem dL_law_558 : decode code 558 = .ok (.lcmp, 1) := by decide +kernel
theorem dL_law_559 : decode code 559 = .ok (.ifCond .eq 5, 3) := by decide +kernel
theorem dL_law_562 : decode code 562 = .ok (.iconst 0, 1) := by decide +kernel
theorem dL_law_563 : decode code 563 = .ok (.ireturn, 1) := by decide +kernel
theorem dL_law_564 : decode code 564 = .ok (.goto 1303, 3) := by decide +kernel
theorem dL_law_567 : decode code 567 = .ok (.aload_n 1, 1) := by decide +kernel
theorem dL_law_568 : decode code 568 = .ok (.invokevirtual 123, 3) := by decide +kernel
theorem dL_law_571 : decode code 571 = .ok (.aload_n 2, 1) := by decide +kernel
theorem dL_law_572 : decode code 572 = .ok (.invokevirtual 126, 3) := by decide +kernel
theorem dL_law_575 : decode code 575 = .ok (.if_icmp .eq 1292, 3) := by decide +kernel
theorem dL_law_578 : decode code 578 = .ok (.iconst 0, 1) := by decide +kernel
theorem dL_law_579 : decode code 579 = .ok (.ireturn, 1) := by decide +kernel
theorem dL_law_580 : decode code 580 = .ok (.aload_n 1, 1) := by decide +kernel
theorem dL_law_581 : decode code 581 = .ok (.aload_n 0, 1) := by decide +kernel
theorem dL_law_582 : decode code 582 = .ok (.iload 4, 2) := by decide +kernel
theorem dL_law_584 : decode code 584 = .ok (.iconst 1, 1) := by decide +kernel
theorem dL_law_585 : decode code 585 = .ok (.iadd, 1) := by decide +kernel
theorem dL_law_586 : decode code 586 = .ok (.iaload, 1) := by decide +kernel
theorem dL_law_587 : decode code 587 = .ok (.aload_n 0, 1) := by decide +kernel
theorem dL_law_588 : decode code 588 = .ok (.iload 4, 2) := by decide +kernel
theorem dL_law_590 : decode code 590 = .ok (.iconst 2, 1) := by decide +kernel
theorem dL_law_591 : decode code 591 = .ok (.iadd, 1) := by decide +kernel
theorem dL_law_592 : decode code 592 = .ok (.iaload, 1) := by decide +kernel
theorem dL_law_593 : decode code 593 = .ok (.aload_n 3, 1) := by decide +kernel
theorem dL_law_594 : decode code 594 = .ok (.invokestatic 127, 3) := by decide +kernel
theorem dL_law_597 : decode code 597 = .ok (.istore 5, 2) := by decide +kernel
theorem dL_law_599 : decode code 599 = .ok (.aload_n 2, 1) := by decide +kernel
theorem dL_law_600 : decode code 600 = .ok (.aload_n 0, 1) := by decide +kernel
theorem dL_law_601 : decode code 601 = .ok (.iload 4, 2) := by decide +kernel
theorem dL_law_603 : decode code 603 = .ok (.iconst 1, 1) := by decide +kernel
theorem dL_law_604 : decode code 604 = .ok (.iadd, 1) := by decide +kernel
theorem dL_law_605 : decode code 605 = .ok (.iaload, 1) := by decide +kernel
theorem dL_law_606 : decode code 606 = .ok (.aload_n 0, 1) := by decide +kernel
theorem dL_law_607 : decode code 607 = .ok (.iload 4, 2) := by decide +kernel
theorem dL_law_609 : decode code 609 = .ok (.iconst 2, 1) := by decide +kernel
theorem dL_law_610 : decode code 610 = .ok (.iadd, 1) := by decide +kernel
theorem dL_law_611 : decode code 611 = .ok (.iaload, 1) := by decide +kernel
theorem dL_law_612 : decode code 612 = .ok (.invokevirtual 129, 3) := by decide +kernel
theorem dL_law_615 : decode code 615 = .ok (.istore 6, 2) := by decide +kernel
theorem dL_law_617 : decode code 617 = .ok (.aload_n 2, 1) := by decide +kernel
theorem dL_law_618 : decode code 618 = .ok (.invokevirtual 104, 3) := by decide +kernel
theorem dL_law_621 : decode code 621 = .ok (.iload 5, 2) := by decide +kernel
theorem dL_law_623 : decode code 623 = .ok (.if_icmp .eq 5, 3) := by decide +kernel
theorem dL_law_626 : decode code 626 = .ok (.iconst 0, 1) := by decide +kernel
theorem dL_law_627 : decode code 627 = .ok (.ireturn, 1) := by decide +kernel
theorem dL_law_628 : decode code 628 = .ok (.iload 5, 2) := by decide +kernel
theorem dL_law_630 : decode code 630 = .ok (.ifCond .ne 15, 3) := by decide +kernel
theorem dL_law_633 : decode code 633 = .ok (.aload_n 3, 1) := by decide +kernel
theorem dL_law_634 : decode code 634 = .ok (.iconst 0, 1) := by decide +kernel
theorem dL_law_635 : decode code 635 = .ok (.laload, 1) := by decide +kernel
theorem dL_law_636 : decode code 636 = .ok (.iload 6, 2) := by decide +kernel
theorem dL_law_638 : decode code 638 = .ok (.i2l, 1) := by decide +kernel
theorem dL_law_639 : decode code 639 = .ok (.lcmp, 1) := by decide +kernel
theorem dL_law_640 : decode code 640 = .ok (.ifCond .eq 5, 3) := by decide +kernel
theorem dL_law_643 : decode code 643 = .ok (.iconst 0, 1) := by decide +kernel
theorem dL_law_644 : decode code 644 = .ok (.ireturn, 1) := by decide +kernel
theorem dL_law_645 : decode code 645 = .ok (.goto 1222, 3) := by decide +kernel
theorem dL_law_648 : decode code 648 = .ok (.aload_n 1, 1) := by decide +kernel
theorem dL_law_649 : decode code 649 = .ok (.aload_n 0, 1) := by decide +kernel
theorem dL_law_650 : decode code 650 = .ok (.iload 4, 2) := by decide +kernel
theorem dL_law_652 : decode code 652 = .ok (.iconst 1, 1) := by decide +kernel
theorem dL_law_653 : decode code 653 = .ok (.iadd, 1) := by decide +kernel
theorem dL_law_654 : decode code 654 = .ok (.iaload, 1) := by decide +kernel
theorem dL_law_655 : decode code 655 = .ok (.aload_n 3, 1) := by decide +kernel
theorem dL_law_656 : decode code 656 = .ok (.invokestatic 130, 3) := by decide +kernel
theorem dL_law_659 : decode code 659 = .ok (.istore 5, 2) := by decide +kernel
theorem dL_law_661 : decode code 661 = .ok (.aload_n 2, 1) := by decide +kernel
theorem dL_law_662 : decode code 662 = .ok (.aload_n 0, 1) := by decide +kernel
theorem dL_law_663 : decode code 663 = .ok (.iload 4, 2) := by decide +kernel
theorem dL_law_665 : decode code 665 = .ok (.iconst 1, 1) := by decide +kernel
theorem dL_law_666 : decode code 666 = .ok (.iadd, 1) := by decide +kernel
theorem dL_law_667 : decode code 667 = .ok (.iaload, 1) := by decide +kernel
theorem dL_law_668 : decode code 668 = .ok (.invokevirtual 133, 3) := by decide +kernel
theorem dL_law_671 : decode code 671 = .ok (.istore 6, 2) := by decide +kernel
theorem dL_law_673 : decode code 673 = .ok (.aload_n 2, 1) := by decide +kernel
theorem dL_law_674 : decode code 674 = .ok (.invokevirtual 104, 3) := by decide +kernel
theorem dL_law_677 : decode code 677 = .ok (.iload 5, 2) := by decide +kernel
theorem dL_law_679 : decode code 679 = .ok (.if_icmp .eq 5, 3) := by decide +kernel
theorem dL_law_682 : decode code 682 = .ok (.iconst 0, 1) := by decide +kernel
theorem dL_law_683 : decode code 683 = .ok (.ireturn, 1) := by decide +kernel
theorem dL_law_684 : decode code 684 = .ok (.iload 5, 2) := by decide +kernel
theorem dL_law_686 : decode code 686 = .ok (.ifCond .ne 15, 3) := by decide +kernel
theorem dL_law_689 : decode code 689 = .ok (.aload_n 3, 1) := by decide +kernel
theorem dL_law_690 : decode code 690 = .ok (.iconst 0, 1) := by decide +kernel
theorem dL_law_691 : decode code 691 = .ok (.laload, 1) := by decide +kernel
theorem dL_law_692 : decode code 692 = .ok (.iload 6, 2) := by decide +kernel
theorem dL_law_694 : decode code 694 = .ok (.i2l, 1) := by decide +kernel
theorem dL_law_695 : decode code 695 = .ok (.lcmp, 1) := by decide +kernel
theorem dL_law_696 : decode code 696 = .ok (.ifCond .eq 5, 3) := by decide +kernel
theorem dL_law_699 : decode code 699 = .ok (.iconst 0, 1) := by decide +kernel
theorem dL_law_700 : decode code 700 = .ok (.ireturn, 1) := by decide +kernel
theorem dL_law_701 : decode code 701 = .ok (.goto 1166, 3) := by decide +kernel
theorem dL_law_704 : decode code 704 = .ok (.aload_n 1, 1) := by decide +kernel
theorem dL_law_705 : decode code 705 = .ok (.aload_n 0, 1) := by decide +kernel
theorem dL_law_706 : decode code 706 = .ok (.iload 4, 2) := by decide +kernel
theorem dL_law_708 : decode code 708 = .ok (.iconst 1, 1) := by decide +kernel
theorem dL_law_709 : decode code 709 = .ok (.iadd, 1) := by decide +kernel
theorem dL_law_710 : decode code 710 = .ok (.iaload, 1) := by decide +kernel
theorem dL_law_711 : decode code 711 = .ok (.aload_n 0, 1) := by decide +kernel
theorem dL_law_712 : decode code 712 = .ok (.iload 4, 2) := by decide +kernel
theorem dL_law_714 : decode code 714 = .ok (.iconst 2, 1) := by decide +kernel
theorem dL_law_715 : decode code 715 = .ok (.iadd, 1) := by decide +kernel
theorem dL_law_716 : decode code 716 = .ok (.iaload, 1) := by decide +kernel
theorem dL_law_717 : decode code 717 = .ok (.aload_n 0, 1) := by decide +kernel
theorem dL_law_718 : decode code 718 = .ok (.iload 4, 2) := by decide +kernel
theorem dL_law_720 : decode code 720 = .ok (.iconst 3, 1) := by decide +kernel
theorem dL_law_721 : decode code 721 = .ok (.iadd, 1) := by decide +kernel
theorem dL_law_722 : decode code 722 = .ok (.iaload, 1) := by decide +kernel
theorem dL_law_723 : decode code 723 = .ok (.aload_n 3, 1) := by decide +kernel
theorem dL_law_724 : decode code 724 = .ok (.invokestatic 134, 3) := by decide +kernel
theorem dL_law_727 : decode code 727 = .ok (.istore 5, 2) := by decide +kernel
theorem dL_law_729 : decode code 729 = .ok (.aload_n 2, 1) := by decide +kernel
theorem dL_law_730 : decode code 730 = .ok (.aload_n 0, 1) := by decide +kernel
theorem dL_law_731 : decode code 731 = .ok (.iload 4, 2) := by decide +kernel
theorem dL_law_733 : decode code 733 = .ok (.iconst 1, 1) := by decide +kernel
theorem dL_law_734 : decode code 734 = .ok (.iadd, 1) := by decide +kernel
theorem dL_law_735 : decode code 735 = .ok (.iaload, 1) := by decide +kernel
theorem dL_law_736 : decode code 736 = .ok (.aload_n 0, 1) := by decide +kernel
theorem dL_law_737 : decode code 737 = .ok (.iload 4, 2) := by decide +kernel
theorem dL_law_739 : decode code 739 = .ok (.iconst 2, 1) := by decide +kernel
theorem dL_law_740 : decode code 740 = .ok (.iadd, 1) := by decide +kernel
theorem dL_law_741 : decode code 741 = .ok (.iaload, 1) := by decide +kernel
theorem dL_law_742 : decode code 742 = .ok (.aload_n 0, 1) := by decide +kernel
theorem dL_law_743 : decode code 743 = .ok (.iload 4, 2) := by decide +kernel
theorem dL_law_745 : decode code 745 = .ok (.iconst 3, 1) := by decide +kernel
theorem dL_law_746 : decode code 746 = .ok (.iadd, 1) := by decide +kernel
theorem dL_law_747 : decode code 747 = .ok (.iaload, 1) := by decide +kernel
theorem dL_law_748 : decode code 748 = .ok (.invokevirtual 136, 3) := by decide +kernel
theorem dL_law_751 : decode code 751 = .ok (.istore 6, 2) := by decide +kernel
theorem dL_law_753 : decode code 753 = .ok (.aload_n 2, 1) := by decide +kernel
theorem dL_law_754 : decode code 754 = .ok (.invokevirtual 104, 3) := by decide +kernel
theorem dL_law_757 : decode code 757 = .ok (.iload 5, 2) := by decide +kernel
theorem dL_law_759 : decode code 759 = .ok (.if_icmp .eq 5, 3) := by decide +kernel
theorem dL_law_762 : decode code 762 = .ok (.iconst 0, 1) := by decide +kernel
theorem dL_law_763 : decode code 763 = .ok (.ireturn, 1) := by decide +kernel
theorem dL_law_764 : decode code 764 = .ok (.iload 5, 2) := by decide +kernel
theorem dL_law_766 : decode code 766 = .ok (.ifCond .ne 15, 3) := by decide +kernel
theorem dL_law_769 : decode code 769 = .ok (.aload_n 3, 1) := by decide +kernel
theorem dL_law_770 : decode code 770 = .ok (.iconst 0, 1) := by decide +kernel
theorem dL_law_771 : decode code 771 = .ok (.laload, 1) := by decide +kernel
theorem dL_law_772 : decode code 772 = .ok (.iload 6, 2) := by decide +kernel
theorem dL_law_774 : decode code 774 = .ok (.i2l, 1) := by decide +kernel
theorem dL_law_775 : decode code 775 = .ok (.lcmp, 1) := by decide +kernel
theorem dL_law_776 : decode code 776 = .ok (.ifCond .eq 5, 3) := by decide +kernel
theorem dL_law_779 : decode code 779 = .ok (.iconst 0, 1) := by decide +kernel
theorem dL_law_780 : decode code 780 = .ok (.ireturn, 1) := by decide +kernel
theorem dL_law_781 : decode code 781 = .ok (.goto 1086, 3) := by decide +kernel
theorem dL_law_784 : decode code 784 = .ok (.aload_n 1, 1) := by decide +kernel
theorem dL_law_785 : decode code 785 = .ok (.aload_n 0, 1) := by decide +kernel
theorem dL_law_786 : decode code 786 = .ok (.iload 4, 2) := by decide +kernel
theorem dL_law_788 : decode code 788 = .ok (.iconst 1, 1) := by decide +kernel
theorem dL_law_789 : decode code 789 = .ok (.iadd, 1) := by decide +kernel
theorem dL_law_790 : decode code 790 = .ok (.iaload, 1) := by decide +kernel
theorem dL_law_791 : decode code 791 = .ok (.aload_n 0, 1) := by decide +kernel
theorem dL_law_792 : decode code 792 = .ok (.iload 4, 2) := by decide +kernel
theorem dL_law_794 : decode code 794 = .ok (.iconst 2, 1) := by decide +kernel
theorem dL_law_795 : decode code 795 = .ok (.iadd, 1) := by decide +kernel
theorem dL_law_796 : decode code 796 = .ok (.iaload, 1) := by decide +kernel
theorem dL_law_797 : decode code 797 = .ok (.aload_n 3, 1) := by decide +kernel
theorem dL_law_798 : decode code 798 = .ok (.invokestatic 137, 3) := by decide +kernel
theorem dL_law_801 : decode code 801 = .ok (.istore 5, 2) := by decide +kernel
theorem dL_law_803 : decode code 803 = .ok (.aload_n 2, 1) := by decide +kernel
theorem dL_law_804 : decode code 804 = .ok (.aload_n 0, 1) := by decide +kernel
theorem dL_law_805 : decode code 805 = .ok (.iload 4, 2) := by decide +kernel
theorem dL_law_807 : decode code 807 = .ok (.iconst 1, 1) := by decide +kernel
theorem dL_law_808 : decode code 808 = .ok (.iadd, 1) := by decide +kernel
theorem dL_law_809 : decode code 809 = .ok (.iaload, 1) := by decide +kernel
theorem dL_law_810 : decode code 810 = .ok (.aload_n 0, 1) := by decide +kernel
theorem dL_law_811 : decode code 811 = .ok (.iload 4, 2) := by decide +kernel
theorem dL_law_813 : decode code 813 = .ok (.iconst 2, 1) := by decide +kernel
theorem dL_law_814 : decode code 814 = .ok (.iadd, 1) := by decide +kernel
theorem dL_law_815 : decode code 815 = .ok (.iaload, 1) := by decide +kernel
theorem dL_law_816 : decode code 816 = .ok (.invokevirtual 139, 3) := by decide +kernel
theorem dL_law_819 : decode code 819 = .ok (.istore 6, 2) := by decide +kernel
theorem dL_law_821 : decode code 821 = .ok (.aload_n 2, 1) := by decide +kernel
theorem dL_law_822 : decode code 822 = .ok (.invokevirtual 104, 3) := by decide +kernel
theorem dL_law_825 : decode code 825 = .ok (.iload 5, 2) := by decide +kernel
theorem dL_law_827 : decode code 827 = .ok (.if_icmp .eq 5, 3) := by decide +kernel
theorem dL_law_830 : decode code 830 = .ok (.iconst 0, 1) := by decide +kernel
theorem dL_law_831 : decode code 831 = .ok (.ireturn, 1) := by decide +kernel
theorem dL_law_832 : decode code 832 = .ok (.iload 5, 2) := by decide +kernel
theorem dL_law_834 : decode code 834 = .ok (.ifCond .ne 15, 3) := by decide +kernel
theorem dL_law_837 : decode code 837 = .ok (.aload_n 3, 1) := by decide +kernel
theorem dL_law_838 : decode code 838 = .ok (.iconst 0, 1) := by decide +kernel
theorem dL_law_839 : decode code 839 = .ok (.laload, 1) := by decide +kernel
theorem dL_law_840 : decode code 840 = .ok (.iload 6, 2) := by decide +kernel
theorem dL_law_842 : decode code 842 = .ok (.i2l, 1) := by decide +kernel
theorem dL_law_843 : decode code 843 = .ok (.lcmp, 1) := by decide +kernel
theorem dL_law_844 : decode code 844 = .ok (.ifCond .eq 5, 3) := by decide +kernel
theorem dL_law_847 : decode code 847 = .ok (.iconst 0, 1) := by decide +kernel
theorem dL_law_848 : decode code 848 = .ok (.ireturn, 1) := by decide +kernel
theorem dL_law_849 : decode code 849 = .ok (.goto 1018, 3) := by decide +kernel
theorem dL_law_852 : decode code 852 = .ok (.aload_n 1, 1) := by decide +kernel
theorem dL_law_853 : decode code 853 = .ok (.aload_n 0, 1) := by decide +kernel
theorem dL_law_854 : decode code 854 = .ok (.iload 4, 2) := by decide +kernel
theorem dL_law_856 : decode code 856 = .ok (.iconst 1, 1) := by decide +kernel
theorem dL_law_857 : decode code 857 = .ok (.iadd, 1) := by decide +kernel
theorem dL_law_858 : decode code 858 = .ok (.iaload, 1) := by decide +kernel
theorem dL_law_859 : decode code 859 = .ok (.aload_n 3, 1) := by decide +kernel
theorem dL_law_860 : decode code 860 = .ok (.invokestatic 140, 3) := by decide +kernel
theorem dL_law_863 : decode code 863 = .ok (.istore 5, 2) := by decide +kernel
theorem dL_law_865 : decode code 865 = .ok (.aload_n 2, 1) := by decide +kernel
theorem dL_law_866 : decode code 866 = .ok (.aload_n 0, 1) := by decide +kernel
theorem dL_law_867 : decode code 867 = .ok (.iload 4, 2) := by decide +kernel
theorem dL_law_869 : decode code 869 = .ok (.iconst 1, 1) := by decide +kernel
theorem dL_law_870 : decode code 870 = .ok (.iadd, 1) := by decide +kernel
theorem dL_law_871 : decode code 871 = .ok (.iaload, 1) := by decide +kernel
theorem dL_law_872 : decode code 872 = .ok (.invokevirtual 142, 3) := by decide +kernel
theorem dL_law_875 : decode code 875 = .ok (.istore 6, 2) := by decide +kernel
theorem dL_law_877 : decode code 877 = .ok (.aload_n 2, 1) := by decide +kernel
theorem dL_law_878 : decode code 878 = .ok (.invokevirtual 104, 3) := by decide +kernel
theorem dL_law_881 : decode code 881 = .ok (.iload 5, 2) := by decide +kernel
theorem dL_law_883 : decode code 883 = .ok (.if_icmp .eq 5, 3) := by decide +kernel
theorem dL_law_886 : decode code 886 = .ok (.iconst 0, 1) := by decide +kernel
theorem dL_law_887 : decode code 887 = .ok (.ireturn, 1) := by decide +kernel
theorem dL_law_888 : decode code 888 = .ok (.iload 5, 2) := by decide +kernel
theorem dL_law_890 : decode code 890 = .ok (.ifCond .ne 15, 3) := by decide +kernel
theorem dL_law_893 : decode code 893 = .ok (.aload_n 3, 1) := by decide +kernel
theorem dL_law_894 : decode code 894 = .ok (.iconst 0, 1) := by decide +kernel
theorem dL_law_895 : decode code 895 = .ok (.laload, 1) := by decide +kernel
theorem dL_law_896 : decode code 896 = .ok (.iload 6, 2) := by decide +kernel
theorem dL_law_898 : decode code 898 = .ok (.i2l, 1) := by decide +kernel
theorem dL_law_899 : decode code 899 = .ok (.lcmp, 1) := by decide +kernel
theorem dL_law_900 : decode code 900 = .ok (.ifCond .eq 5, 3) := by decide +kernel
theorem dL_law_903 : decode code 903 = .ok (.iconst 0, 1) := by decide +kernel
theorem dL_law_904 : decode code 904 = .ok (.ireturn, 1) := by decide +kernel
theorem dL_law_905 : decode code 905 = .ok (.goto 962, 3) := by decide +kernel
theorem dL_law_908 : decode code 908 = .ok (.aload_n 1, 1) := by decide +kernel
theorem dL_law_909 : decode code 909 = .ok (.aload_n 0, 1) := by decide +kernel
theorem dL_law_910 : decode code 910 = .ok (.iload 4, 2) := by decide +kernel
theorem dL_law_912 : decode code 912 = .ok (.iconst 1, 1) := by decide +kernel
theorem dL_law_913 : decode code 913 = .ok (.iadd, 1) := by decide +kernel
theorem dL_law_914 : decode code 914 = .ok (.iaload, 1) := by decide +kernel
theorem dL_law_915 : decode code 915 = .ok (.aload_n 3, 1) := by decide +kernel
theorem dL_law_916 : decode code 916 = .ok (.invokestatic 143, 3) := by decide +kernel
theorem dL_law_919 : decode code 919 = .ok (.istore 5, 2) := by decide +kernel
theorem dL_law_921 : decode code 921 = .ok (.aload_n 2, 1) := by decide +kernel
theorem dL_law_922 : decode code 922 = .ok (.aload_n 0, 1) := by decide +kernel
theorem dL_law_923 : decode code 923 = .ok (.iload 4, 2) := by decide +kernel
theorem dL_law_925 : decode code 925 = .ok (.iconst 1, 1) := by decide +kernel
theorem dL_law_926 : decode code 926 = .ok (.iadd, 1) := by decide +kernel
theorem dL_law_927 : decode code 927 = .ok (.iaload, 1) := by decide +kernel
theorem dL_law_928 : decode code 928 = .ok (.invokevirtual 145, 3) := by decide +kernel
theorem dL_law_931 : decode code 931 = .ok (.istore 6, 2) := by decide +kernel
theorem dL_law_933 : decode code 933 = .ok (.aload_n 2, 1) := by decide +kernel
theorem dL_law_934 : decode code 934 = .ok (.invokevirtual 104, 3) := by decide +kernel
theorem dL_law_937 : decode code 937 = .ok (.iload 5, 2) := by decide +kernel
theorem dL_law_939 : decode code 939 = .ok (.if_icmp .eq 5, 3) := by decide +kernel
theorem dL_law_942 : decode code 942 = .ok (.iconst 0, 1) := by decide +kernel
theorem dL_law_943 : decode code 943 = .ok (.ireturn, 1) := by decide +kernel
theorem dL_law_944 : decode code 944 = .ok (.iload 5, 2) := by decide +kernel
theorem dL_law_946 : decode code 946 = .ok (.ifCond .ne 15, 3) := by decide +kernel
theorem dL_law_949 : decode code 949 = .ok (.aload_n 3, 1) := by decide +kernel
theorem dL_law_950 : decode code 950 = .ok (.iconst 0, 1) := by decide +kernel
theorem dL_law_951 : decode code 951 = .ok (.laload, 1) := by decide +kernel
theorem dL_law_952 : decode code 952 = .ok (.iload 6, 2) := by decide +kernel
theorem dL_law_954 : decode code 954 = .ok (.i2l, 1) := by decide +kernel
theorem dL_law_955 : decode code 955 = .ok (.lcmp, 1) := by decide +kernel
theorem dL_law_956 : decode code 956 = .ok (.ifCond .eq 5, 3) := by decide +kernel
theorem dL_law_959 : decode code 959 = .ok (.iconst 0, 1) := by decide +kernel
theorem dL_law_960 : decode code 960 = .ok (.ireturn, 1) := by decide +kernel
theorem dL_law_961 : decode code 961 = .ok (.goto 906, 3) := by decide +kernel
theorem dL_law_964 : decode code 964 = .ok (.aload_n 1, 1) := by decide +kernel
theorem dL_law_965 : decode code 965 = .ok (.aload_n 0, 1) := by decide +kernel
theorem dL_law_966 : decode code 966 = .ok (.iload 4, 2) := by decide +kernel
theorem dL_law_968 : decode code 968 = .ok (.iconst 1, 1) := by decide +kernel
theorem dL_law_969 : decode code 969 = .ok (.iadd, 1) := by decide +kernel
theorem dL_law_970 : decode code 970 = .ok (.iaload, 1) := by decide +kernel
theorem dL_law_971 : decode code 971 = .ok (.aload_n 3, 1) := by decide +kernel
theorem dL_law_972 : decode code 972 = .ok (.invokestatic 146, 3) := by decide +kernel
theorem dL_law_975 : decode code 975 = .ok (.istore 5, 2) := by decide +kernel
theorem dL_law_977 : decode code 977 = .ok (.aload_n 2, 1) := by decide +kernel
theorem dL_law_978 : decode code 978 = .ok (.aload_n 0, 1) := by decide +kernel
theorem dL_law_979 : decode code 979 = .ok (.iload 4, 2) := by decide +kernel
theorem dL_law_981 : decode code 981 = .ok (.iconst 1, 1) := by decide +kernel
theorem dL_law_982 : decode code 982 = .ok (.iadd, 1) := by decide +kernel
theorem dL_law_983 : decode code 983 = .ok (.iaload, 1) := by decide +kernel
theorem dL_law_984 : decode code 984 = .ok (.invokevirtual 148, 3) := by decide +kernel
theorem dL_law_987 : decode code 987 = .ok (.istore 6, 2) := by decide +kernel
theorem dL_law_989 : decode code 989 = .ok (.aload_n 2, 1) := by decide +kernel
theorem dL_law_990 : decode code 990 = .ok (.invokevirtual 104, 3) := by decide +kernel
theorem dL_law_993 : decode code 993 = .ok (.iload 5, 2) := by decide +kernel
theorem dL_law_995 : decode code 995 = .ok (.if_icmp .eq 5, 3) := by decide +kernel
theorem dL_law_998 : decode code 998 = .ok (.iconst 0, 1) := by decide +kernel
theorem dL_law_999 : decode code 999 = .ok (.ireturn, 1) := by decide +kernel
theorem dL_law_1000 : decode code 1000 = .ok (.iload 5, 2) := by decide +kernel
theorem dL_law_1002 : decode code 1002 = .ok (.ifCond .ne 15, 3) := by decide +kernel
theorem dL_law_1005 : decode code 1005 = .ok (.aload_n 3, 1) := by decide +kernel
theorem dL_law_1006 : decode code 1006 = .ok (.iconst 0, 1) := by decide +kernel
theorem dL_law_1007 : decode code 1007 = .ok (.laload, 1) := by decide +kernel
theorem dL_law_1008 : decode code 1008 = .ok (.iload 6, 2) := by decide +kernel
theorem dL_law_1010 : decode code 1010 = .ok (.i2l, 1) := by decide +kernel
theorem dL_law_1011 : decode code 1011 = .ok (.lcmp, 1) := by decide +kernel
theorem dL_law_1012 : decode code 1012 = .ok (.ifCond .eq 5, 3) := by decide +kernel
theorem dL_law_1015 : decode code 1015 = .ok (.iconst 0, 1) := by decide +kernel
theorem dL_law_1016 : decode code 1016 = .ok (.ireturn, 1) := by decide +kernel
theorem dL_law_1017 : decode code 1017 = .ok (.goto 850, 3) := by decide +kernel
theorem dL_law_1020 : decode code 1020 = .ok (.aload_n 1, 1) := by decide +kernel
theorem dL_law_1021 : decode code 1021 = .ok (.aload_n 0, 1) := by decide +kernel
theorem dL_law_1022 : decode code 1022 = .ok (.iload 4, 2) := by decide +kernel
theorem dL_law_1024 : decode code 1024 = .ok (.iconst 1, 1) := by decide +kernel
theorem dL_law_1025 : decode code 1025 = .ok (.iadd, 1) := by decide +kernel
theorem dL_law_1026 : decode code 1026 = .ok (.iaload, 1) := by decide +kernel
theorem dL_law_1027 : decode code 1027 = .ok (.aload_n 0, 1) := by decide +kernel
theorem dL_law_1028 : decode code 1028 = .ok (.iload 4, 2) := by decide +kernel
theorem dL_law_1030 : decode code 1030 = .ok (.iconst 2, 1) := by decide +kernel
theorem dL_law_1031 : decode code 1031 = .ok (.iadd, 1) := by decide +kernel
theorem dL_law_1032 : decode code 1032 = .ok (.iaload, 1) := by decide +kernel
theorem dL_law_1033 : decode code 1033 = .ok (.aload_n 0, 1) := by decide +kernel
theorem dL_law_1034 : decode code 1034 = .ok (.iload 4, 2) := by decide +kernel
theorem dL_law_1036 : decode code 1036 = .ok (.iconst 3, 1) := by decide +kernel
theorem dL_law_1037 : decode code 1037 = .ok (.iadd, 1) := by decide +kernel
theorem dL_law_1038 : decode code 1038 = .ok (.iaload, 1) := by decide +kernel
theorem dL_law_1039 : decode code 1039 = .ok (.aload_n 3, 1) := by decide +kernel
theorem dL_law_1040 : decode code 1040 = .ok (.invokestatic 149, 3) := by decide +kernel
theorem dL_law_1043 : decode code 1043 = .ok (.istore 5, 2) := by decide +kernel
theorem dL_law_1045 : decode code 1045 = .ok (.aload_n 2, 1) := by decide +kernel
theorem dL_law_1046 : decode code 1046 = .ok (.aload_n 0, 1) := by decide +kernel
theorem dL_law_1047 : decode code 1047 = .ok (.iload 4, 2) := by decide +kernel
theorem dL_law_1049 : decode code 1049 = .ok (.iconst 1, 1) := by decide +kernel
theorem dL_law_1050 : decode code 1050 = .ok (.iadd, 1) := by decide +kernel
theorem dL_law_1051 : decode code 1051 = .ok (.iaload, 1) := by decide +kernel
theorem dL_law_1052 : decode code 1052 = .ok (.aload_n 0, 1) := by decide +kernel
theorem dL_law_1053 : decode code 1053 = .ok (.iload 4, 2) := by decide +kernel
theorem dL_law_1055 : decode code 1055 = .ok (.iconst 2, 1) := by decide +kernel
theorem dL_law_1056 : decode code 1056 = .ok (.iadd, 1) := by decide +kernel
theorem dL_law_1057 : decode code 1057 = .ok (.iaload, 1) := by decide +kernel
theorem dL_law_1058 : decode code 1058 = .ok (.aload_n 0, 1) := by decide +kernel
theorem dL_law_1059 : decode code 1059 = .ok (.iload 4, 2) := by decide +kernel
theorem dL_law_1061 : decode code 1061 = .ok (.iconst 3, 1) := by decide +kernel
theorem dL_law_1062 : decode code 1062 = .ok (.iadd, 1) := by decide +kernel
theorem dL_law_1063 : decode code 1063 = .ok (.iaload, 1) := by decide +kernel
theorem dL_law_1064 : decode code 1064 = .ok (.invokevirtual 151, 3) := by decide +kernel
theorem dL_law_1067 : decode code 1067 = .ok (.istore 6, 2) := by decide +kernel
theorem dL_law_1069 : decode code 1069 = .ok (.aload_n 2, 1) := by decide +kernel
theorem dL_law_1070 : decode code 1070 = .ok (.invokevirtual 104, 3) := by decide +kernel
theorem dL_law_1073 : decode code 1073 = .ok (.iload 5, 2) := by decide +kernel
theorem dL_law_1075 : decode code 1075 = .ok (.if_icmp .eq 5, 3) := by decide +kernel
theorem dL_law_1078 : decode code 1078 = .ok (.iconst 0, 1) := by decide +kernel
theorem dL_law_1079 : decode code 1079 = .ok (.ireturn, 1) := by decide +kernel
theorem dL_law_1080 : decode code 1080 = .ok (.iload 5, 2) := by decide +kernel
theorem dL_law_1082 : decode code 1082 = .ok (.ifCond .ne 15, 3) := by decide +kernel
theorem dL_law_1085 : decode code 1085 = .ok (.aload_n 3, 1) := by decide +kernel
theorem dL_law_1086 : decode code 1086 = .ok (.iconst 0, 1) := by decide +kernel
theorem dL_law_1087 : decode code 1087 = .ok (.laload, 1) := by decide +kernel
theorem dL_law_1088 : decode code 1088 = .ok (.iload 6, 2) := by decide +kernel
theorem dL_law_1090 : decode code 1090 = .ok (.i2l, 1) := by decide +kernel
theorem dL_law_1091 : decode code 1091 = .ok (.lcmp, 1) := by decide +kernel
theorem dL_law_1092 : decode code 1092 = .ok (.ifCond .eq 5, 3) := by decide +kernel
theorem dL_law_1095 : decode code 1095 = .ok (.iconst 0, 1) := by decide +kernel
theorem dL_law_1096 : decode code 1096 = .ok (.ireturn, 1) := by decide +kernel
theorem dL_law_1097 : decode code 1097 = .ok (.goto 770, 3) := by decide +kernel
theorem dL_law_1100 : decode code 1100 = .ok (.aload_n 1, 1) := by decide +kernel
theorem dL_law_1101 : decode code 1101 = .ok (.invokevirtual 152, 3) := by decide +kernel
theorem dL_law_1104 : decode code 1104 = .ok (.aload_n 2, 1) := by decide +kernel
theorem dL_law_1105 : decode code 1105 = .ok (.invokevirtual 155, 3) := by decide +kernel
theorem dL_law_1108 : decode code 1108 = .ok (.if_icmp .eq 759, 3) := by decide +kernel
theorem dL_law_1111 : decode code 1111 = .ok (.iconst 0, 1) := by decide +kernel
theorem dL_law_1112 : decode code 1112 = .ok (.ireturn, 1) := by decide +kernel
theorem dL_law_1113 : decode code 1113 = .ok (.aload_n 1, 1) := by decide +kernel
theorem dL_law_1114 : decode code 1114 = .ok (.aload_n 0, 1) := by decide +kernel
theorem dL_law_1115 : decode code 1115 = .ok (.iload 4, 2) := by decide +kernel
theorem dL_law_1117 : decode code 1117 = .ok (.iconst 1, 1) := by decide +kernel
theorem dL_law_1118 : decode code 1118 = .ok (.iadd, 1) := by decide +kernel
theorem dL_law_1119 : decode code 1119 = .ok (.iaload, 1) := by decide +kernel
theorem dL_law_1120 : decode code 1120 = .ok (.aload_n 3, 1) := by decide +kernel
theorem dL_law_1121 : decode code 1121 = .ok (.invokestatic 156, 3) := by decide +kernel
theorem dL_law_1124 : decode code 1124 = .ok (.istore 5, 2) := by decide +kernel
theorem dL_law_1126 : decode code 1126 = .ok (.aload_n 2, 1) := by decide +kernel
theorem dL_law_1127 : decode code 1127 = .ok (.aload_n 0, 1) := by decide +kernel
theorem dL_law_1128 : decode code 1128 = .ok (.iload 4, 2) := by decide +kernel
theorem dL_law_1130 : decode code 1130 = .ok (.iconst 1, 1) := by decide +kernel
theorem dL_law_1131 : decode code 1131 = .ok (.iadd, 1) := by decide +kernel
theorem dL_law_1132 : decode code 1132 = .ok (.iaload, 1) := by decide +kernel
theorem dL_law_1133 : decode code 1133 = .ok (.invokevirtual 158, 3) := by decide +kernel
theorem dL_law_1136 : decode code 1136 = .ok (.istore 6, 2) := by decide +kernel
theorem dL_law_1138 : decode code 1138 = .ok (.aload_n 2, 1) := by decide +kernel
theorem dL_law_1139 : decode code 1139 = .ok (.invokevirtual 104, 3) := by decide +kernel
theorem dL_law_1142 : decode code 1142 = .ok (.iload 5, 2) := by decide +kernel
theorem dL_law_1144 : decode code 1144 = .ok (.if_icmp .eq 5, 3) := by decide +kernel
theorem dL_law_1147 : decode code 1147 = .ok (.iconst 0, 1) := by decide +kernel
theorem dL_law_1148 : decode code 1148 = .ok (.ireturn, 1) := by decide +kernel
theorem dL_law_1149 : decode code 1149 = .ok (.iload 5, 2) := by decide +kernel
theorem dL_law_1151 : decode code 1151 = .ok (.ifCond .ne 15, 3) := by decide +kernel
theorem dL_law_1154 : decode code 1154 = .ok (.aload_n 3, 1) := by decide +kernel
theorem dL_law_1155 : decode code 1155 = .ok (.iconst 0, 1) := by decide +kernel
theorem dL_law_1156 : decode code 1156 = .ok (.laload, 1) := by decide +kernel
theorem dL_law_1157 : decode code 1157 = .ok (.iload 6, 2) := by decide +kernel
theorem dL_law_1159 : decode code 1159 = .ok (.i2l, 1) := by decide +kernel
theorem dL_law_1160 : decode code 1160 = .ok (.lcmp, 1) := by decide +kernel
theorem dL_law_1161 : decode code 1161 = .ok (.ifCond .eq 5, 3) := by decide +kernel
theorem dL_law_1164 : decode code 1164 = .ok (.iconst 0, 1) := by decide +kernel
theorem dL_law_1165 : decode code 1165 = .ok (.ireturn, 1) := by decide +kernel
theorem dL_law_1166 : decode code 1166 = .ok (.goto 701, 3) := by decide +kernel
theorem dL_law_1169 : decode code 1169 = .ok (.aload_n 1, 1) := by decide +kernel
theorem dL_law_1170 : decode code 1170 = .ok (.aload_n 0, 1) := by decide +kernel
theorem dL_law_1171 : decode code 1171 = .ok (.iload 4, 2) := by decide +kernel
theorem dL_law_1173 : decode code 1173 = .ok (.iconst 1, 1) := by decide +kernel
theorem dL_law_1174 : decode code 1174 = .ok (.iadd, 1) := by decide +kernel
theorem dL_law_1175 : decode code 1175 = .ok (.iaload, 1) := by decide +kernel
theorem dL_law_1176 : decode code 1176 = .ok (.aload_n 3, 1) := by decide +kernel
theorem dL_law_1177 : decode code 1177 = .ok (.invokestatic 159, 3) := by decide +kernel
theorem dL_law_1180 : decode code 1180 = .ok (.istore 5, 2) := by decide +kernel
theorem dL_law_1182 : decode code 1182 = .ok (.aload_n 2, 1) := by decide +kernel
theorem dL_law_1183 : decode code 1183 = .ok (.aload_n 0, 1) := by decide +kernel
theorem dL_law_1184 : decode code 1184 = .ok (.iload 4, 2) := by decide +kernel
theorem dL_law_1186 : decode code 1186 = .ok (.iconst 1, 1) := by decide +kernel
theorem dL_law_1187 : decode code 1187 = .ok (.iadd, 1) := by decide +kernel
theorem dL_law_1188 : decode code 1188 = .ok (.iaload, 1) := by decide +kernel
theorem dL_law_1189 : decode code 1189 = .ok (.invokevirtual 161, 3) := by decide +kernel
theorem dL_law_1192 : decode code 1192 = .ok (.istore 6, 2) := by decide +kernel
theorem dL_law_1194 : decode code 1194 = .ok (.aload_n 2, 1) := by decide +kernel
theorem dL_law_1195 : decode code 1195 = .ok (.invokevirtual 104, 3) := by decide +kernel
theorem dL_law_1198 : decode code 1198 = .ok (.iload 5, 2) := by decide +kernel
theorem dL_law_1200 : decode code 1200 = .ok (.if_icmp .eq 5, 3) := by decide +kernel
theorem dL_law_1203 : decode code 1203 = .ok (.iconst 0, 1) := by decide +kernel
theorem dL_law_1204 : decode code 1204 = .ok (.ireturn, 1) := by decide +kernel
theorem dL_law_1205 : decode code 1205 = .ok (.iload 5, 2) := by decide +kernel
theorem dL_law_1207 : decode code 1207 = .ok (.ifCond .ne 15, 3) := by decide +kernel
theorem dL_law_1210 : decode code 1210 = .ok (.aload_n 3, 1) := by decide +kernel
theorem dL_law_1211 : decode code 1211 = .ok (.iconst 0, 1) := by decide +kernel
theorem dL_law_1212 : decode code 1212 = .ok (.laload, 1) := by decide +kernel
theorem dL_law_1213 : decode code 1213 = .ok (.iload 6, 2) := by decide +kernel
theorem dL_law_1215 : decode code 1215 = .ok (.i2l, 1) := by decide +kernel
theorem dL_law_1216 : decode code 1216 = .ok (.lcmp, 1) := by decide +kernel
theorem dL_law_1217 : decode code 1217 = .ok (.ifCond .eq 5, 3) := by decide +kernel
theorem dL_law_1220 : decode code 1220 = .ok (.iconst 0, 1) := by decide +kernel
theorem dL_law_1221 : decode code 1221 = .ok (.ireturn, 1) := by decide +kernel
theorem dL_law_1222 : decode code 1222 = .ok (.goto 645, 3) := by decide +kernel
theorem dL_law_1225 : decode code 1225 = .ok (.aload_n 1, 1) := by decide +kernel
theorem dL_law_1226 : decode code 1226 = .ok (.aload_n 0, 1) := by decide +kernel
theorem dL_law_1227 : decode code 1227 = .ok (.iload 4, 2) := by decide +kernel
theorem dL_law_1229 : decode code 1229 = .ok (.iconst 1, 1) := by decide +kernel
theorem dL_law_1230 : decode code 1230 = .ok (.iadd, 1) := by decide +kernel
theorem dL_law_1231 : decode code 1231 = .ok (.iaload, 1) := by decide +kernel
theorem dL_law_1232 : decode code 1232 = .ok (.aload_n 0, 1) := by decide +kernel
theorem dL_law_1233 : decode code 1233 = .ok (.iload 4, 2) := by decide +kernel
theorem dL_law_1235 : decode code 1235 = .ok (.iconst 2, 1) := by decide +kernel
theorem dL_law_1236 : decode code 1236 = .ok (.iadd, 1) := by decide +kernel
theorem dL_law_1237 : decode code 1237 = .ok (.iaload, 1) := by decide +kernel
theorem dL_law_1238 : decode code 1238 = .ok (.aload_n 3, 1) := by decide +kernel
theorem dL_law_1239 : decode code 1239 = .ok (.invokestatic 162, 3) := by decide +kernel
theorem dL_law_1242 : decode code 1242 = .ok (.istore 5, 2) := by decide +kernel
theorem dL_law_1244 : decode code 1244 = .ok (.aload_n 2, 1) := by decide +kernel
theorem dL_law_1245 : decode code 1245 = .ok (.aload_n 0, 1) := by decide +kernel
theorem dL_law_1246 : decode code 1246 = .ok (.iload 4, 2) := by decide +kernel
theorem dL_law_1248 : decode code 1248 = .ok (.iconst 1, 1) := by decide +kernel
theorem dL_law_1249 : decode code 1249 = .ok (.iadd, 1) := by decide +kernel
theorem dL_law_1250 : decode code 1250 = .ok (.iaload, 1) := by decide +kernel
theorem dL_law_1251 : decode code 1251 = .ok (.aload_n 0, 1) := by decide +kernel
theorem dL_law_1252 : decode code 1252 = .ok (.iload 4, 2) := by decide +kernel
theorem dL_law_1254 : decode code 1254 = .ok (.iconst 2, 1) := by decide +kernel
theorem dL_law_1255 : decode code 1255 = .ok (.iadd, 1) := by decide +kernel
theorem dL_law_1256 : decode code 1256 = .ok (.iaload, 1) := by decide +kernel
theorem dL_law_1257 : decode code 1257 = .ok (.invokevirtual 164, 3) := by decide +kernel
theorem dL_law_1260 : decode code 1260 = .ok (.istore 6, 2) := by decide +kernel
theorem dL_law_1262 : decode code 1262 = .ok (.aload_n 2, 1) := by decide +kernel
theorem dL_law_1263 : decode code 1263 = .ok (.invokevirtual 104, 3) := by decide +kernel
theorem dL_law_1266 : decode code 1266 = .ok (.iload 5, 2) := by decide +kernel
theorem dL_law_1268 : decode code 1268 = .ok (.if_icmp .eq 5, 3) := by decide +kernel
theorem dL_law_1271 : decode code 1271 = .ok (.iconst 0, 1) := by decide +kernel
theorem dL_law_1272 : decode code 1272 = .ok (.ireturn, 1) := by decide +kernel
theorem dL_law_1273 : decode code 1273 = .ok (.iload 5, 2) := by decide +kernel
theorem dL_law_1275 : decode code 1275 = .ok (.ifCond .ne 15, 3) := by decide +kernel
theorem dL_law_1278 : decode code 1278 = .ok (.aload_n 3, 1) := by decide +kernel
theorem dL_law_1279 : decode code 1279 = .ok (.iconst 0, 1) := by decide +kernel
theorem dL_law_1280 : decode code 1280 = .ok (.laload, 1) := by decide +kernel
theorem dL_law_1281 : decode code 1281 = .ok (.iload 6, 2) := by decide +kernel
theorem dL_law_1283 : decode code 1283 = .ok (.i2l, 1) := by decide +kernel
theorem dL_law_1284 : decode code 1284 = .ok (.lcmp, 1) := by decide +kernel
theorem dL_law_1285 : decode code 1285 = .ok (.ifCond .eq 5, 3) := by decide +kernel
theorem dL_law_1288 : decode code 1288 = .ok (.iconst 0, 1) := by decide +kernel
theorem dL_law_1289 : decode code 1289 = .ok (.ireturn, 1) := by decide +kernel
theorem dL_law_1290 : decode code 1290 = .ok (.goto 577, 3) := by decide +kernel
theorem dL_law_1293 : decode code 1293 = .ok (.aload_n 1, 1) := by decide +kernel
theorem dL_law_1294 : decode code 1294 = .ok (.invokevirtual 165, 3) := by decide +kernel
theorem dL_law_1297 : decode code 1297 = .ok (.aload_n 2, 1) := by decide +kernel
theorem dL_law_1298 : decode code 1298 = .ok (.invokevirtual 168, 3) := by decide +kernel
theorem dL_law_1301 : decode code 1301 = .ok (.if_icmp .eq 566, 3) := by decide +kernel
theorem dL_law_1304 : decode code 1304 = .ok (.iconst 0, 1) := by decide +kernel
theorem dL_law_1305 : decode code 1305 = .ok (.ireturn, 1) := by decide +kernel
theorem dL_law_1306 : decode code 1306 = .ok (.aload_n 1, 1) := by decide +kernel
theorem dL_law_1307 : decode code 1307 = .ok (.aload_n 0, 1) := by decide +kernel
theorem dL_law_1308 : decode code 1308 = .ok (.iload 4, 2) := by decide +kernel
theorem dL_law_1310 : decode code 1310 = .ok (.iconst 1, 1) := by decide +kernel
theorem dL_law_1311 : decode code 1311 = .ok (.iadd, 1) := by decide +kernel
theorem dL_law_1312 : decode code 1312 = .ok (.iaload, 1) := by decide +kernel
theorem dL_law_1313 : decode code 1313 = .ok (.aload_n 0, 1) := by decide +kernel
theorem dL_law_1314 : decode code 1314 = .ok (.iload 4, 2) := by decide +kernel
theorem dL_law_1316 : decode code 1316 = .ok (.iconst 2, 1) := by decide +kernel
theorem dL_law_1317 : decode code 1317 = .ok (.iadd, 1) := by decide +kernel
theorem dL_law_1318 : decode code 1318 = .ok (.iaload, 1) := by decide +kernel
theorem dL_law_1319 : decode code 1319 = .ok (.aload_n 3, 1) := by decide +kernel
theorem dL_law_1320 : decode code 1320 = .ok (.invokestatic 169, 3) := by decide +kernel
theorem dL_law_1323 : decode code 1323 = .ok (.istore 5, 2) := by decide +kernel
theorem dL_law_1325 : decode code 1325 = .ok (.aload_n 2, 1) := by decide +kernel
theorem dL_law_1326 : decode code 1326 = .ok (.aload_n 0, 1) := by decide +kernel
theorem dL_law_1327 : decode code 1327 = .ok (.iload 4, 2) := by decide +kernel
theorem dL_law_1329 : decode code 1329 = .ok (.iconst 1, 1) := by decide +kernel
theorem dL_law_1330 : decode code 1330 = .ok (.iadd, 1) := by decide +kernel
theorem dL_law_1331 : decode code 1331 = .ok (.iaload, 1) := by decide +kernel
theorem dL_law_1332 : decode code 1332 = .ok (.aload_n 0, 1) := by decide +kernel
theorem dL_law_1333 : decode code 1333 = .ok (.iload 4, 2) := by decide +kernel
theorem dL_law_1335 : decode code 1335 = .ok (.iconst 2, 1) := by decide +kernel
theorem dL_law_1336 : decode code 1336 = .ok (.iadd, 1) := by decide +kernel
theorem dL_law_1337 : decode code 1337 = .ok (.iaload, 1) := by decide +kernel
theorem dL_law_1338 : decode code 1338 = .ok (.invokevirtual 171, 3) := by decide +kernel
theorem dL_law_1341 : decode code 1341 = .ok (.istore 6, 2) := by decide +kernel
theorem dL_law_1343 : decode code 1343 = .ok (.aload_n 2, 1) := by decide +kernel
theorem dL_law_1344 : decode code 1344 = .ok (.invokevirtual 104, 3) := by decide +kernel
theorem dL_law_1347 : decode code 1347 = .ok (.iload 5, 2) := by decide +kernel
theorem dL_law_1349 : decode code 1349 = .ok (.if_icmp .eq 5, 3) := by decide +kernel
theorem dL_law_1352 : decode code 1352 = .ok (.iconst 0, 1) := by decide +kernel
theorem dL_law_1353 : decode code 1353 = .ok (.ireturn, 1) := by decide +kernel
theorem dL_law_1354 : decode code 1354 = .ok (.iload 5, 2) := by decide +kernel
theorem dL_law_1356 : decode code 1356 = .ok (.ifCond .ne 22, 3) := by decide +kernel
theorem dL_law_1359 : decode code 1359 = .ok (.aload_n 3, 1) := by decide +kernel
theorem dL_law_1360 : decode code 1360 = .ok (.iconst 0, 1) := by decide +kernel
theorem dL_law_1361 : decode code 1361 = .ok (.laload, 1) := by decide +kernel
theorem dL_law_1362 : decode code 1362 = .ok (.iload 6, 2) := by decide +kernel
theorem dL_law_1364 : decode code 1364 = .ok (.ifCond .eq 7, 3) := by decide +kernel
theorem dL_law_1367 : decode code 1367 = .ok (.lconst 1, 1) := by decide +kernel
theorem dL_law_1368 : decode code 1368 = .ok (.goto 4, 3) := by decide +kernel
theorem dL_law_1371 : decode code 1371 = .ok (.lconst 0, 1) := by decide +kernel
theorem dL_law_1372 : decode code 1372 = .ok (.lcmp, 1) := by decide +kernel
theorem dL_law_1373 : decode code 1373 = .ok (.ifCond .eq 5, 3) := by decide +kernel
theorem dL_law_1376 : decode code 1376 = .ok (.iconst 0, 1) := by decide +kernel
theorem dL_law_1377 : decode code 1377 = .ok (.ireturn, 1) := by decide +kernel
theorem dL_law_1378 : decode code 1378 = .ok (.goto 489, 3) := by decide +kernel
theorem dL_law_1381 : decode code 1381 = .ok (.aload_n 1, 1) := by decide +kernel
theorem dL_law_1382 : decode code 1382 = .ok (.invokevirtual 172, 3) := by decide +kernel
theorem dL_law_1385 : decode code 1385 = .ok (.aload_n 2, 1) := by decide +kernel
theorem dL_law_1386 : decode code 1386 = .ok (.invokevirtual 175, 3) := by decide +kernel
theorem dL_law_1389 : decode code 1389 = .ok (.if_icmp .eq 478, 3) := by decide +kernel
theorem dL_law_1392 : decode code 1392 = .ok (.iconst 0, 1) := by decide +kernel
theorem dL_law_1393 : decode code 1393 = .ok (.ireturn, 1) := by decide +kernel
theorem dL_law_1394 : decode code 1394 = .ok (.aload_n 1, 1) := by decide +kernel
theorem dL_law_1395 : decode code 1395 = .ok (.aload_n 0, 1) := by decide +kernel
theorem dL_law_1396 : decode code 1396 = .ok (.iload 4, 2) := by decide +kernel
theorem dL_law_1398 : decode code 1398 = .ok (.iconst 1, 1) := by decide +kernel
theorem dL_law_1399 : decode code 1399 = .ok (.iadd, 1) := by decide +kernel
theorem dL_law_1400 : decode code 1400 = .ok (.iaload, 1) := by decide +kernel
theorem dL_law_1401 : decode code 1401 = .ok (.aload_n 3, 1) := by decide +kernel
theorem dL_law_1402 : decode code 1402 = .ok (.invokestatic 176, 3) := by decide +kernel
theorem dL_law_1405 : decode code 1405 = .ok (.istore 5, 2) := by decide +kernel
theorem dL_law_1407 : decode code 1407 = .ok (.aload_n 2, 1) := by decide +kernel
theorem dL_law_1408 : decode code 1408 = .ok (.aload_n 0, 1) := by decide +kernel
theorem dL_law_1409 : decode code 1409 = .ok (.iload 4, 2) := by decide +kernel
theorem dL_law_1411 : decode code 1411 = .ok (.iconst 1, 1) := by decide +kernel
theorem dL_law_1412 : decode code 1412 = .ok (.iadd, 1) := by decide +kernel
theorem dL_law_1413 : decode code 1413 = .ok (.iaload, 1) := by decide +kernel
theorem dL_law_1414 : decode code 1414 = .ok (.invokevirtual 178, 3) := by decide +kernel
theorem dL_law_1417 : decode code 1417 = .ok (.istore 6, 2) := by decide +kernel
theorem dL_law_1419 : decode code 1419 = .ok (.aload_n 2, 1) := by decide +kernel
theorem dL_law_1420 : decode code 1420 = .ok (.invokevirtual 104, 3) := by decide +kernel
theorem dL_law_1423 : decode code 1423 = .ok (.iload 5, 2) := by decide +kernel
theorem dL_law_1425 : decode code 1425 = .ok (.if_icmp .eq 5, 3) := by decide +kernel
theorem dL_law_1428 : decode code 1428 = .ok (.iconst 0, 1) := by decide +kernel
theorem dL_law_1429 : decode code 1429 = .ok (.ireturn, 1) := by decide +kernel
theorem dL_law_1430 : decode code 1430 = .ok (.iload 5, 2) := by decide +kernel
theorem dL_law_1432 : decode code 1432 = .ok (.ifCond .ne 15, 3) := by decide +kernel
theorem dL_law_1435 : decode code 1435 = .ok (.aload_n 3, 1) := by decide +kernel
theorem dL_law_1436 : decode code 1436 = .ok (.iconst 0, 1) := by decide +kernel
theorem dL_law_1437 : decode code 1437 = .ok (.laload, 1) := by decide +kernel
theorem dL_law_1438 : decode code 1438 = .ok (.iload 6, 2) := by decide +kernel
theorem dL_law_1440 : decode code 1440 = .ok (.i2l, 1) := by decide +kernel
theorem dL_law_1441 : decode code 1441 = .ok (.lcmp, 1) := by decide +kernel
theorem dL_law_1442 : decode code 1442 = .ok (.ifCond .eq 5, 3) := by decide +kernel
theorem dL_law_1445 : decode code 1445 = .ok (.iconst 0, 1) := by decide +kernel
theorem dL_law_1446 : decode code 1446 = .ok (.ireturn, 1) := by decide +kernel
theorem dL_law_1447 : decode code 1447 = .ok (.goto 420, 3) := by decide +kernel
theorem dL_law_1450 : decode code 1450 = .ok (.aload_n 1, 1) := by decide +kernel
theorem dL_law_1451 : decode code 1451 = .ok (.aload_n 0, 1) := by decide +kernel
theorem dL_law_1452 : decode code 1452 = .ok (.iload 4, 2) := by decide +kernel
theorem dL_law_1454 : decode code 1454 = .ok (.iconst 1, 1) := by decide +kernel
theorem dL_law_1455 : decode code 1455 = .ok (.iadd, 1) := by decide +kernel
theorem dL_law_1456 : decode code 1456 = .ok (.iaload, 1) := by decide +kernel
theorem dL_law_1457 : decode code 1457 = .ok (.aload_n 3, 1) := by decide +kernel
theorem dL_law_1458 : decode code 1458 = .ok (.invokestatic 179, 3) := by decide +kernel
theorem dL_law_1461 : decode code 1461 = .ok (.istore 5, 2) := by decide +kernel
theorem dL_law_1463 : decode code 1463 = .ok (.aload_n 2, 1) := by decide +kernel
theorem dL_law_1464 : decode code 1464 = .ok (.aload_n 0, 1) := by decide +kernel
theorem dL_law_1465 : decode code 1465 = .ok (.iload 4, 2) := by decide +kernel
theorem dL_law_1467 : decode code 1467 = .ok (.iconst 1, 1) := by decide +kernel
theorem dL_law_1468 : decode code 1468 = .ok (.iadd, 1) := by decide +kernel
theorem dL_law_1469 : decode code 1469 = .ok (.iaload, 1) := by decide +kernel
theorem dL_law_1470 : decode code 1470 = .ok (.invokevirtual 181, 3) := by decide +kernel
theorem dL_law_1473 : decode code 1473 = .ok (.istore 6, 2) := by decide +kernel
theorem dL_law_1475 : decode code 1475 = .ok (.aload_n 2, 1) := by decide +kernel
theorem dL_law_1476 : decode code 1476 = .ok (.invokevirtual 104, 3) := by decide +kernel
theorem dL_law_1479 : decode code 1479 = .ok (.iload 5, 2) := by decide +kernel
theorem dL_law_1481 : decode code 1481 = .ok (.if_icmp .eq 5, 3) := by decide +kernel
theorem dL_law_1484 : decode code 1484 = .ok (.iconst 0, 1) := by decide +kernel
theorem dL_law_1485 : decode code 1485 = .ok (.ireturn, 1) := by decide +kernel
theorem dL_law_1486 : decode code 1486 = .ok (.iload 5, 2) := by decide +kernel
theorem dL_law_1488 : decode code 1488 = .ok (.ifCond .ne 15, 3) := by decide +kernel
theorem dL_law_1491 : decode code 1491 = .ok (.aload_n 3, 1) := by decide +kernel
theorem dL_law_1492 : decode code 1492 = .ok (.iconst 0, 1) := by decide +kernel
theorem dL_law_1493 : decode code 1493 = .ok (.laload, 1) := by decide +kernel
theorem dL_law_1494 : decode code 1494 = .ok (.iload 6, 2) := by decide +kernel
theorem dL_law_1496 : decode code 1496 = .ok (.i2l, 1) := by decide +kernel
theorem dL_law_1497 : decode code 1497 = .ok (.lcmp, 1) := by decide +kernel
theorem dL_law_1498 : decode code 1498 = .ok (.ifCond .eq 5, 3) := by decide +kernel
theorem dL_law_1501 : decode code 1501 = .ok (.iconst 0, 1) := by decide +kernel
theorem dL_law_1502 : decode code 1502 = .ok (.ireturn, 1) := by decide +kernel
theorem dL_law_1503 : decode code 1503 = .ok (.goto 364, 3) := by decide +kernel
theorem dL_law_1506 : decode code 1506 = .ok (.aload_n 1, 1) := by decide +kernel
theorem dL_law_1507 : decode code 1507 = .ok (.invokevirtual 182, 3) := by decide +kernel
theorem dL_law_1510 : decode code 1510 = .ok (.aload_n 2, 1) := by decide +kernel
theorem dL_law_1511 : decode code 1511 = .ok (.invokevirtual 185, 3) := by decide +kernel
theorem dL_law_1514 : decode code 1514 = .ok (.if_icmp .eq 353, 3) := by decide +kernel
theorem dL_law_1517 : decode code 1517 = .ok (.iconst 0, 1) := by decide +kernel
theorem dL_law_1518 : decode code 1518 = .ok (.ireturn, 1) := by decide +kernel
theorem dL_law_1519 : decode code 1519 = .ok (.aload_n 1, 1) := by decide +kernel
theorem dL_law_1520 : decode code 1520 = .ok (.aload_n 0, 1) := by decide +kernel
theorem dL_law_1521 : decode code 1521 = .ok (.iload 4, 2) := by decide +kernel
theorem dL_law_1523 : decode code 1523 = .ok (.iconst 1, 1) := by decide +kernel
theorem dL_law_1524 : decode code 1524 = .ok (.iadd, 1) := by decide +kernel
theorem dL_law_1525 : decode code 1525 = .ok (.iaload, 1) := by decide +kernel
theorem dL_law_1526 : decode code 1526 = .ok (.aload_n 3, 1) := by decide +kernel
theorem dL_law_1527 : decode code 1527 = .ok (.invokestatic 186, 3) := by decide +kernel
theorem dL_law_1530 : decode code 1530 = .ok (.istore 5, 2) := by decide +kernel
theorem dL_law_1532 : decode code 1532 = .ok (.aload_n 2, 1) := by decide +kernel
theorem dL_law_1533 : decode code 1533 = .ok (.aload_n 0, 1) := by decide +kernel
theorem dL_law_1534 : decode code 1534 = .ok (.iload 4, 2) := by decide +kernel
theorem dL_law_1536 : decode code 1536 = .ok (.iconst 1, 1) := by decide +kernel
theorem dL_law_1537 : decode code 1537 = .ok (.iadd, 1) := by decide +kernel
theorem dL_law_1538 : decode code 1538 = .ok (.iaload, 1) := by decide +kernel
theorem dL_law_1539 : decode code 1539 = .ok (.invokevirtual 188, 3) := by decide +kernel
theorem dL_law_1542 : decode code 1542 = .ok (.istore 6, 2) := by decide +kernel
theorem dL_law_1544 : decode code 1544 = .ok (.aload_n 2, 1) := by decide +kernel
theorem dL_law_1545 : decode code 1545 = .ok (.invokevirtual 104, 3) := by decide +kernel
theorem dL_law_1548 : decode code 1548 = .ok (.iload 5, 2) := by decide +kernel
theorem dL_law_1550 : decode code 1550 = .ok (.if_icmp .eq 5, 3) := by decide +kernel
theorem dL_law_1553 : decode code 1553 = .ok (.iconst 0, 1) := by decide +kernel
theorem dL_law_1554 : decode code 1554 = .ok (.ireturn, 1) := by decide +kernel
theorem dL_law_1555 : decode code 1555 = .ok (.iload 5, 2) := by decide +kernel
theorem dL_law_1557 : decode code 1557 = .ok (.ifCond .ne 15, 3) := by decide +kernel
theorem dL_law_1560 : decode code 1560 = .ok (.aload_n 3, 1) := by decide +kernel
theorem dL_law_1561 : decode code 1561 = .ok (.iconst 0, 1) := by decide +kernel
theorem dL_law_1562 : decode code 1562 = .ok (.laload, 1) := by decide +kernel
theorem dL_law_1563 : decode code 1563 = .ok (.iload 6, 2) := by decide +kernel
theorem dL_law_1565 : decode code 1565 = .ok (.i2l, 1) := by decide +kernel
theorem dL_law_1566 : decode code 1566 = .ok (.lcmp, 1) := by decide +kernel
theorem dL_law_1567 : decode code 1567 = .ok (.ifCond .eq 5, 3) := by decide +kernel
theorem dL_law_1570 : decode code 1570 = .ok (.iconst 0, 1) := by decide +kernel
theorem dL_law_1571 : decode code 1571 = .ok (.ireturn, 1) := by decide +kernel
theorem dL_law_1572 : decode code 1572 = .ok (.goto 295, 3) := by decide +kernel
theorem dL_law_1575 : decode code 1575 = .ok (.aload_n 1, 1) := by decide +kernel
theorem dL_law_1576 : decode code 1576 = .ok (.aload_n 0, 1) := by decide +kernel
theorem dL_law_1577 : decode code 1577 = .ok (.iload 4, 2) := by decide +kernel
theorem dL_law_1579 : decode code 1579 = .ok (.iconst 1, 1) := by decide +kernel
theorem dL_law_1580 : decode code 1580 = .ok (.iadd, 1) := by decide +kernel
theorem dL_law_1581 : decode code 1581 = .ok (.iaload, 1) := by decide +kernel
theorem dL_law_1582 : decode code 1582 = .ok (.aload_n 3, 1) := by decide +kernel
theorem dL_law_1583 : decode code 1583 = .ok (.invokestatic 189, 3) := by decide +kernel
theorem dL_law_1586 : decode code 1586 = .ok (.istore 5, 2) := by decide +kernel
theorem dL_law_1588 : decode code 1588 = .ok (.aload_n 2, 1) := by decide +kernel
theorem dL_law_1589 : decode code 1589 = .ok (.aload_n 0, 1) := by decide +kernel
theorem dL_law_1590 : decode code 1590 = .ok (.iload 4, 2) := by decide +kernel
theorem dL_law_1592 : decode code 1592 = .ok (.iconst 1, 1) := by decide +kernel
theorem dL_law_1593 : decode code 1593 = .ok (.iadd, 1) := by decide +kernel
theorem dL_law_1594 : decode code 1594 = .ok (.iaload, 1) := by decide +kernel
theorem dL_law_1595 : decode code 1595 = .ok (.invokevirtual 191, 3) := by decide +kernel
theorem dL_law_1598 : decode code 1598 = .ok (.istore 6, 2) := by decide +kernel
theorem dL_law_1600 : decode code 1600 = .ok (.aload_n 2, 1) := by decide +kernel
theorem dL_law_1601 : decode code 1601 = .ok (.invokevirtual 104, 3) := by decide +kernel
theorem dL_law_1604 : decode code 1604 = .ok (.iload 5, 2) := by decide +kernel
theorem dL_law_1606 : decode code 1606 = .ok (.if_icmp .eq 5, 3) := by decide +kernel
theorem dL_law_1609 : decode code 1609 = .ok (.iconst 0, 1) := by decide +kernel
theorem dL_law_1610 : decode code 1610 = .ok (.ireturn, 1) := by decide +kernel
theorem dL_law_1611 : decode code 1611 = .ok (.iload 5, 2) := by decide +kernel
theorem dL_law_1613 : decode code 1613 = .ok (.ifCond .ne 15, 3) := by decide +kernel
theorem dL_law_1616 : decode code 1616 = .ok (.aload_n 3, 1) := by decide +kernel
theorem dL_law_1617 : decode code 1617 = .ok (.iconst 0, 1) := by decide +kernel
theorem dL_law_1618 : decode code 1618 = .ok (.laload, 1) := by decide +kernel
theorem dL_law_1619 : decode code 1619 = .ok (.iload 6, 2) := by decide +kernel
theorem dL_law_1621 : decode code 1621 = .ok (.i2l, 1) := by decide +kernel
theorem dL_law_1622 : decode code 1622 = .ok (.lcmp, 1) := by decide +kernel
theorem dL_law_1623 : decode code 1623 = .ok (.ifCond .eq 5, 3) := by decide +kernel
theorem dL_law_1626 : decode code 1626 = .ok (.iconst 0, 1) := by decide +kernel
theorem dL_law_1627 : decode code 1627 = .ok (.ireturn, 1) := by decide +kernel
theorem dL_law_1628 : decode code 1628 = .ok (.goto 239, 3) := by decide +kernel
theorem dL_law_1631 : decode code 1631 = .ok (.aload_n 1, 1) := by decide +kernel
theorem dL_law_1632 : decode code 1632 = .ok (.invokevirtual 192, 3) := by decide +kernel
theorem dL_law_1635 : decode code 1635 = .ok (.aload_n 2, 1) := by decide +kernel
theorem dL_law_1636 : decode code 1636 = .ok (.invokevirtual 195, 3) := by decide +kernel
theorem dL_law_1639 : decode code 1639 = .ok (.if_icmp .eq 228, 3) := by decide +kernel
theorem dL_law_1642 : decode code 1642 = .ok (.iconst 0, 1) := by decide +kernel
theorem dL_law_1643 : decode code 1643 = .ok (.ireturn, 1) := by decide +kernel
theorem dL_law_1644 : decode code 1644 = .ok (.aload_n 1, 1) := by decide +kernel
theorem dL_law_1645 : decode code 1645 = .ok (.aload_n 3, 1) := by decide +kernel
theorem dL_law_1646 : decode code 1646 = .ok (.invokestatic 196, 3) := by decide +kernel
theorem dL_law_1649 : decode code 1649 = .ok (.istore 5, 2) := by decide +kernel
theorem dL_law_1651 : decode code 1651 = .ok (.aload_n 2, 1) := by decide +kernel
theorem dL_law_1652 : decode code 1652 = .ok (.invokevirtual 198, 3) := by decide +kernel
theorem dL_law_1655 : decode code 1655 = .ok (.istore 6, 2) := by decide +kernel
theorem dL_law_1657 : decode code 1657 = .ok (.aload_n 2, 1) := by decide +kernel
theorem dL_law_1658 : decode code 1658 = .ok (.invokevirtual 104, 3) := by decide +kernel
theorem dL_law_1661 : decode code 1661 = .ok (.iload 5, 2) := by decide +kernel
theorem dL_law_1663 : decode code 1663 = .ok (.if_icmp .eq 5, 3) := by decide +kernel
theorem dL_law_1666 : decode code 1666 = .ok (.iconst 0, 1) := by decide +kernel
theorem dL_law_1667 : decode code 1667 = .ok (.ireturn, 1) := by decide +kernel
theorem dL_law_1668 : decode code 1668 = .ok (.iload 5, 2) := by decide +kernel
theorem dL_law_1670 : decode code 1670 = .ok (.ifCond .ne 15, 3) := by decide +kernel
theorem dL_law_1673 : decode code 1673 = .ok (.aload_n 3, 1) := by decide +kernel
theorem dL_law_1674 : decode code 1674 = .ok (.iconst 0, 1) := by decide +kernel
theorem dL_law_1675 : decode code 1675 = .ok (.laload, 1) := by decide +kernel
theorem dL_law_1676 : decode code 1676 = .ok (.iload 6, 2) := by decide +kernel
theorem dL_law_1678 : decode code 1678 = .ok (.i2l, 1) := by decide +kernel
theorem dL_law_1679 : decode code 1679 = .ok (.lcmp, 1) := by decide +kernel
theorem dL_law_1680 : decode code 1680 = .ok (.ifCond .eq 5, 3) := by decide +kernel
theorem dL_law_1683 : decode code 1683 = .ok (.iconst 0, 1) := by decide +kernel
theorem dL_law_1684 : decode code 1684 = .ok (.ireturn, 1) := by decide +kernel
theorem dL_law_1685 : decode code 1685 = .ok (.goto 182, 3) := by decide +kernel
theorem dL_law_1688 : decode code 1688 = .ok (.aload_n 1, 1) := by decide +kernel
theorem dL_law_1689 : decode code 1689 = .ok (.aload_n 0, 1) := by decide +kernel
theorem dL_law_1690 : decode code 1690 = .ok (.iload 4, 2) := by decide +kernel
theorem dL_law_1692 : decode code 1692 = .ok (.iconst 1, 1) := by decide +kernel
theorem dL_law_1693 : decode code 1693 = .ok (.iadd, 1) := by decide +kernel
theorem dL_law_1694 : decode code 1694 = .ok (.iaload, 1) := by decide +kernel
theorem dL_law_1695 : decode code 1695 = .ok (.aload_n 3, 1) := by decide +kernel
theorem dL_law_1696 : decode code 1696 = .ok (.invokestatic 199, 3) := by decide +kernel
theorem dL_law_1699 : decode code 1699 = .ok (.istore 5, 2) := by decide +kernel
theorem dL_law_1701 : decode code 1701 = .ok (.aload_n 2, 1) := by decide +kernel
theorem dL_law_1702 : decode code 1702 = .ok (.aload_n 0, 1) := by decide +kernel
theorem dL_law_1703 : decode code 1703 = .ok (.iload 4, 2) := by decide +kernel
theorem dL_law_1705 : decode code 1705 = .ok (.iconst 1, 1) := by decide +kernel
theorem dL_law_1706 : decode code 1706 = .ok (.iadd, 1) := by decide +kernel
theorem dL_law_1707 : decode code 1707 = .ok (.iaload, 1) := by decide +kernel
theorem dL_law_1708 : decode code 1708 = .ok (.invokevirtual 201, 3) := by decide +kernel
theorem dL_law_1711 : decode code 1711 = .ok (.istore 6, 2) := by decide +kernel
theorem dL_law_1713 : decode code 1713 = .ok (.aload_n 2, 1) := by decide +kernel
theorem dL_law_1714 : decode code 1714 = .ok (.invokevirtual 104, 3) := by decide +kernel
theorem dL_law_1717 : decode code 1717 = .ok (.iload 5, 2) := by decide +kernel
theorem dL_law_1719 : decode code 1719 = .ok (.if_icmp .eq 5, 3) := by decide +kernel
theorem dL_law_1722 : decode code 1722 = .ok (.iconst 0, 1) := by decide +kernel
theorem dL_law_1723 : decode code 1723 = .ok (.ireturn, 1) := by decide +kernel
theorem dL_law_1724 : decode code 1724 = .ok (.iload 5, 2) := by decide +kernel
theorem dL_law_1726 : decode code 1726 = .ok (.ifCond .ne 15, 3) := by decide +kernel
theorem dL_law_1729 : decode code 1729 = .ok (.aload_n 3, 1) := by decide +kernel
theorem dL_law_1730 : decode code 1730 = .ok (.iconst 0, 1) := by decide +kernel
theorem dL_law_1731 : decode code 1731 = .ok (.laload, 1) := by decide +kernel
theorem dL_law_1732 : decode code 1732 = .ok (.iload 6, 2) := by decide +kernel
theorem dL_law_1734 : decode code 1734 = .ok (.i2l, 1) := by decide +kernel
theorem dL_law_1735 : decode code 1735 = .ok (.lcmp, 1) := by decide +kernel
theorem dL_law_1736 : decode code 1736 = .ok (.ifCond .eq 5, 3) := by decide +kernel
theorem dL_law_1739 : decode code 1739 = .ok (.iconst 0, 1) := by decide +kernel
theorem dL_law_1740 : decode code 1740 = .ok (.ireturn, 1) := by decide +kernel
theorem dL_law_1741 : decode code 1741 = .ok (.goto 126, 3) := by decide +kernel
theorem dL_law_1744 : decode code 1744 = .ok (.aload_n 1, 1) := by decide +kernel
theorem dL_law_1745 : decode code 1745 = .ok (.aload_n 0, 1) := by decide +kernel
theorem dL_law_1746 : decode code 1746 = .ok (.iload 4, 2) := by decide +kernel
theorem dL_law_1748 : decode code 1748 = .ok (.iconst 1, 1) := by decide +kernel
theorem dL_law_1749 : decode code 1749 = .ok (.iadd, 1) := by decide +kernel
theorem dL_law_1750 : decode code 1750 = .ok (.iaload, 1) := by decide +kernel
theorem dL_law_1751 : decode code 1751 = .ok (.aload_n 0, 1) := by decide +kernel
theorem dL_law_1752 : decode code 1752 = .ok (.iload 4, 2) := by decide +kernel
theorem dL_law_1754 : decode code 1754 = .ok (.iconst 2, 1) := by decide +kernel
theorem dL_law_1755 : decode code 1755 = .ok (.iadd, 1) := by decide +kernel
theorem dL_law_1756 : decode code 1756 = .ok (.iaload, 1) := by decide +kernel
theorem dL_law_1757 : decode code 1757 = .ok (.aload_n 3, 1) := by decide +kernel
theorem dL_law_1758 : decode code 1758 = .ok (.invokestatic 202, 3) := by decide +kernel
theorem dL_law_1761 : decode code 1761 = .ok (.istore 5, 2) := by decide +kernel
theorem dL_law_1763 : decode code 1763 = .ok (.aload_n 2, 1) := by decide +kernel
theorem dL_law_1764 : decode code 1764 = .ok (.aload_n 0, 1) := by decide +kernel
theorem dL_law_1765 : decode code 1765 = .ok (.iload 4, 2) := by decide +kernel
theorem dL_law_1767 : decode code 1767 = .ok (.iconst 1, 1) := by decide +kernel
theorem dL_law_1768 : decode code 1768 = .ok (.iadd, 1) := by decide +kernel
theorem dL_law_1769 : decode code 1769 = .ok (.iaload, 1) := by decide +kernel
theorem dL_law_1770 : decode code 1770 = .ok (.aload_n 0, 1) := by decide +kernel
theorem dL_law_1771 : decode code 1771 = .ok (.iload 4, 2) := by decide +kernel
theorem dL_law_1773 : decode code 1773 = .ok (.iconst 2, 1) := by decide +kernel
theorem dL_law_1774 : decode code 1774 = .ok (.iadd, 1) := by decide +kernel
theorem dL_law_1775 : decode code 1775 = .ok (.iaload, 1) := by decide +kernel
theorem dL_law_1776 : decode code 1776 = .ok (.invokevirtual 204, 3) := by decide +kernel
theorem dL_law_1779 : decode code 1779 = .ok (.istore 6, 2) := by decide +kernel
theorem dL_law_1781 : decode code 1781 = .ok (.aload_n 2, 1) := by decide +kernel
theorem dL_law_1782 : decode code 1782 = .ok (.invokevirtual 104, 3) := by decide +kernel
theorem dL_law_1785 : decode code 1785 = .ok (.iload 5, 2) := by decide +kernel
theorem dL_law_1787 : decode code 1787 = .ok (.if_icmp .eq 5, 3) := by decide +kernel
theorem dL_law_1790 : decode code 1790 = .ok (.iconst 0, 1) := by decide +kernel
theorem dL_law_1791 : decode code 1791 = .ok (.ireturn, 1) := by decide +kernel
theorem dL_law_1792 : decode code 1792 = .ok (.iload 5, 2) := by decide +kernel
theorem dL_law_1794 : decode code 1794 = .ok (.ifCond .ne 15, 3) := by decide +kernel
theorem dL_law_1797 : decode code 1797 = .ok (.aload_n 3, 1) := by decide +kernel
theorem dL_law_1798 : decode code 1798 = .ok (.iconst 0, 1) := by decide +kernel
theorem dL_law_1799 : decode code 1799 = .ok (.laload, 1) := by decide +kernel
theorem dL_law_1800 : decode code 1800 = .ok (.iload 6, 2) := by decide +kernel
theorem dL_law_1802 : decode code 1802 = .ok (.i2l, 1) := by decide +kernel
theorem dL_law_1803 : decode code 1803 = .ok (.lcmp, 1) := by decide +kernel
theorem dL_law_1804 : decode code 1804 = .ok (.ifCond .eq 5, 3) := by decide +kernel
theorem dL_law_1807 : decode code 1807 = .ok (.iconst 0, 1) := by decide +kernel
theorem dL_law_1808 : decode code 1808 = .ok (.ireturn, 1) := by decide +kernel
theorem dL_law_1809 : decode code 1809 = .ok (.goto 58, 3) := by decide +kernel
theorem dL_law_1812 : decode code 1812 = .ok (.aload_n 1, 1) := by decide +kernel
theorem dL_law_1813 : decode code 1813 = .ok (.invokevirtual 205, 3) := by decide +kernel
theorem dL_law_1816 : decode code 1816 = .ok (.dstore 5, 2) := by decide +kernel
theorem dL_law_1818 : decode code 1818 = .ok (.aload_n 2, 1) := by decide +kernel
theorem dL_law_1819 : decode code 1819 = .ok (.invokevirtual 209, 3) := by decide +kernel
theorem dL_law_1822 : decode code 1822 = .ok (.dstore 7, 2) := by decide +kernel
theorem dL_law_1824 : decode code 1824 = .ok (.dload 5, 2) := by decide +kernel
theorem dL_law_1826 : decode code 1826 = .ok (.dload 7, 2) := by decide +kernel
theorem dL_law_1828 : decode code 1828 = .ok (.dcmp .l, 1) := by decide +kernel
theorem dL_law_1829 : decode code 1829 = .ok (.ifCond .eq 21, 3) := by decide +kernel
theorem dL_law_1832 : decode code 1832 = .ok (.dload 5, 2) := by decide +kernel
theorem dL_law_1834 : decode code 1834 = .ok (.dload 5, 2) := by decide +kernel
theorem dL_law_1836 : decode code 1836 = .ok (.dcmp .l, 1) := by decide +kernel
theorem dL_law_1837 : decode code 1837 = .ok (.ifCond .eq 11, 3) := by decide +kernel
theorem dL_law_1840 : decode code 1840 = .ok (.dload 7, 2) := by decide +kernel
theorem dL_law_1842 : decode code 1842 = .ok (.dload 7, 2) := by decide +kernel
theorem dL_law_1844 : decode code 1844 = .ok (.dcmp .l, 1) := by decide +kernel
theorem dL_law_1845 : decode code 1845 = .ok (.ifCond .ne 5, 3) := by decide +kernel
theorem dL_law_1848 : decode code 1848 = .ok (.iconst 0, 1) := by decide +kernel
theorem dL_law_1849 : decode code 1849 = .ok (.ireturn, 1) := by decide +kernel
theorem dL_law_1850 : decode code 1850 = .ok (.goto 17, 3) := by decide +kernel
theorem dL_law_1853 : decode code 1853 = .ok (.aload_n 1, 1) := by decide +kernel
theorem dL_law_1854 : decode code 1854 = .ok (.invokevirtual 210, 3) := by decide +kernel
theorem dL_law_1857 : decode code 1857 = .ok (.aload_n 2, 1) := by decide +kernel
theorem dL_law_1858 : decode code 1858 = .ok (.invokevirtual 214, 3) := by decide +kernel
theorem dL_law_1861 : decode code 1861 = .ok (.lcmp, 1) := by decide +kernel
theorem dL_law_1862 : decode code 1862 = .ok (.ifCond .eq 5, 3) := by decide +kernel
theorem dL_law_1865 : decode code 1865 = .ok (.iconst 0, 1) := by decide +kernel
theorem dL_law_1866 : decode code 1866 = .ok (.ireturn, 1) := by decide +kernel
theorem dL_law_1867 : decode code 1867 = .ok (.iinc 4 5, 3) := by decide +kernel
theorem dL_law_1870 : decode code 1870 = .ok (.goto (-1847), 3) := by decide +kernel
theorem dL_law_1873 : decode code 1873 = .ok (.iconst 1, 1) := by decide +kernel
theorem dL_law_1874 : decode code 1874 = .ok (.ireturn, 1) := by decide +kernel
set_option maxHeartbeats 4000000 in
set_option maxRecDepth 100000 in
theorem mL_c0 {p : Program} {l : Launch} {e : Env} {R : Room} {s : State} {m : MethodId} {args : Array Value} {below : List Frame} {meth : Method} {c : Code} {Q : State → Prop} {D : va_G} {U : zz_U} {A : Nat → Prop} {cells slots : Nat} {ad : Nat → Nat} {ret : Option FieldType} {b L : Nat} {xs : Nat → Int32} (C : zz_C p l R s m meth c D U A RL code 9 ret [] 12) (hX : va_X b L xs s s.heap) (hbl : b < s.heap.size) (hbA : ¬ A b) (hcR : cells + 8 ≤ R.cells) (hsR : slots + 48 ≤ R.slots) (i_ : Int32) (σ τ : zz_St) (o : Nat → Int64) (r : zz_LS) (hf : fL_c0 xs L i_ σ τ o = some (some r)) (k : zz_Z p l e R s m args below meth c Q D A 9 (cells + 8) (slots + 48) (zz_wl U ad r.1 r.2.1 r.2.2) 1867 [(0, .ref b), (1, .ref (ad 0)), (2, .ref (ad 47)), (3, .ref (ad 62)), (4, .int i_)] []) : zz_Z p l e R s m args below meth c Q D A 9 cells slots (zz_wl U ad σ τ o) 180 [(0, .ref b), (1, .ref (ad 0)), (2, .ref (ad 47)), (3, .ref (ad 62)), (4, .int i_)] [] := by
  unfold fL_c0 at hf
  refine zz_aload_n C 1 dL_law_180 rfl rfl ?_
  refine zz_aload_n C 0 dL_law_181 rfl rfl ?_
  refine zz_iload C 4 dL_law_182 rfl ?_
  refine zz_iconst (v := (1 : Int32)) C dL_law_184 (by decide) ?_
  refine zz_iadd C dL_law_185 ?_
  obtain ⟨x1, h2, hf⟩ := zz_bind hf
  refine zz_sld C hX hbl hbA dL_law_186 h2 ?_
  refine zz_aload_n C 0 dL_law_187 rfl rfl ?_
  refine zz_iload C 4 dL_law_188 rfl ?_
  refine zz_iconst (v := (2 : Int32)) C dL_law_190 (by decide) ?_
  refine zz_iadd C dL_law_191 ?_
  obtain ⟨x3, h4, hf⟩ := zz_bind hf
  refine zz_sld C hX hbl hbA dL_law_192 h4 ?_
  refine zz_aload_n C 0 dL_law_193 rfl rfl ?_
  refine zz_iload C 4 dL_law_194 rfl ?_
  refine zz_iconst (v := (3 : Int32)) C dL_law_196 (by decide) ?_
  refine zz_iadd C dL_law_197 ?_
  obtain ⟨x5, h6, hf⟩ := zz_bind hf
  refine zz_sld C hX hbl hbA dL_law_198 h6 ?_
  refine zz_aload_n C 0 dL_law_199 rfl rfl ?_
  refine zz_iload C 4 dL_law_200 rfl ?_
  refine zz_iconst (v := (4 : Int32)) C dL_law_202 (by decide) ?_
  refine zz_iadd C dL_law_203 ?_
  obtain ⟨x7, h8, hf⟩ := zz_bind hf
  refine zz_sld C hX hbl hbA dL_law_204 h8 ?_
  refine zz_aload_n C 3 dL_law_205 rfl rfl ?_
  obtain ⟨x9, h10, hf⟩ := zz_bind hf
  refine zz_callSH1 (As := [.ref (ad 0), .int x1, .int x3, .int x5, .int x7, .ref (ad 62)]) (rest := []) C (mL_addPiece σ τ o x1 x3 x5 x7 x9 h10) dL_law_206 rfl zwl_29 zy_L_addPiece rfl (by decide) (by decide) (Nat.le_of_ble_eq_true rfl) (by omega) (by omega) rfl ?_
  refine zz_istore C dL_law_209 (by decide) (lv' := [(5, .int x9.1), (0, .ref b), (1, .ref (ad 0)), (2, .ref (ad 47)), (3, .ref (ad 62)), (4, .int i_)]) rfl ?_
  refine zz_aload_n C 3 dL_law_211 rfl rfl ?_
  refine zz_aload_n C 1 dL_law_212 rfl rfl ?_
  refine zz_iload C 5 dL_law_213 rfl ?_
  refine zz_iconst (v := (1 : Int32)) C dL_law_215 (by decide) ?_
  refine zz_iadd C dL_law_216 ?_
  obtain ⟨x11, h12, hf⟩ := zz_bind hf
  refine zz_sld C hX hbl hbA dL_law_217 h12 ?_
  refine zz_aload_n C 1 dL_law_218 rfl rfl ?_
  refine zz_iload C 5 dL_law_219 rfl ?_
  refine zz_iconst (v := (2 : Int32)) C dL_law_221 (by decide) ?_
  refine zz_iadd C dL_law_222 ?_
  obtain ⟨x13, h14, hf⟩ := zz_bind hf
  refine zz_sld C hX hbl hbA dL_law_223 h14 ?_
  refine zz_aload_n C 1 dL_law_224 rfl rfl ?_
  refine zz_iload C 5 dL_law_225 rfl ?_
  refine zz_iconst (v := (3 : Int32)) C dL_law_227 (by decide) ?_
  refine zz_iadd C dL_law_228 ?_
  obtain ⟨x15, h16, hf⟩ := zz_bind hf
  refine zz_sld C hX hbl hbA dL_law_229 h16 ?_
  refine zz_aload_n C 1 dL_law_230 rfl rfl ?_
  refine zz_iload C 5 dL_law_231 rfl ?_
  refine zz_iconst (v := (4 : Int32)) C dL_law_233 (by decide) ?_
  refine zz_iadd C dL_law_234 ?_
  obtain ⟨x17, h18, hf⟩ := zz_bind hf
  refine zz_sld C hX hbl hbA dL_law_235 h18 ?_
  obtain ⟨x19, h20, hf⟩ := zz_bind hf
  refine zz_ren (ws' := (zz_wm U ad x9.2.1 τ [zz_oc U ad x9.2.2])) rfl ?_
  refine zz_callV1 (As := [.int x11, .int x13, .int x15, .int x17]) (rest := []) C 47 (mX8_addPiece τ x11 x13 x15 x17 x19 h20) dL_law_236 rfl rfl rfl zwl_28 zy_X8_addPiece rfl (by decide) (by decide) (Nat.le_of_ble_eq_true rfl) (by omega) (by omega) rfl ?_
  refine zz_ren (ws' := (zz_wl U ad x9.2.1 x19.2 x9.2.2)) rfl ?_
  refine zz_istore C dL_law_239 (by decide) (lv' := [(6, .int x19.1), (5, .int x9.1), (0, .ref b), (1, .ref (ad 0)), (2, .ref (ad 47)), (3, .ref (ad 62)), (4, .int i_)]) rfl ?_
  refine zz_aload_n C 4 dL_law_241 rfl rfl ?_
  obtain ⟨x21, h22, hf⟩ := zz_bind hf
  refine zz_ren (ws' := (zz_wm U ad x9.2.1 x19.2 [zz_oc U ad x9.2.2])) rfl ?_
  refine zz_callV1 (As := []) (rest := []) C 47 (mX8_thrown x19.2 x21 h22) dL_law_242 rfl rfl rfl zwl_27 zy_X8_thrown rfl (by decide) (by decide) (Nat.le_of_ble_eq_true rfl) (by omega) (by omega) rfl ?_
  refine zz_ren (ws' := (zz_wl U ad x9.2.1 x19.2 x9.2.2)) rfl ?_
  refine zz_iload C 1 dL_law_245 rfl ?_
  refine zz_icmp_eq (tgt := 252) C dL_law_247 (by decide) (fun g23 => ?_) (fun g23 => ?_)
  · rw [if_pos g23] at hf
    obtain ⟨b24, h25, hf⟩ := zz_bind hf
    refine zz_cutI (P := b24 = true) 267 [(6, .int x19.1), (5, .int x9.1), (0, .ref b), (1, .ref (ad 0)), (2, .ref (ad 47)), (3, .ref (ad 62)), (4, .int i_)] [] (zz_wl U ad x9.2.1 x19.2 x9.2.2) (fun g28 => ?_) (fun J26 => ?_)
    · rw [if_pos g28] at hf
      cases hf
    refine zz_cutI (P := b24 = false) 269 [(6, .int x19.1), (5, .int x9.1), (0, .ref b), (1, .ref (ad 0)), (2, .ref (ad 47)), (3, .ref (ad 62)), (4, .int i_)] [] (zz_wl U ad x9.2.1 x19.2 x9.2.2) (fun g28 => ?_) (fun J27 => ?_)
    · rw [if_neg (show ¬ b24 = true by rw [g28]; decide)] at hf
      refine zz_goto (tgt := 1867) C dL_law_269 (by decide) ?_
      refine zz_sub [2, 3, 4, 5, 6] rfl ?_
      cases hf
      refine zz_widen (k := cells + 8) (n := slots + 48) (by omega) (by omega) ?_
      exact k
    refine zz_iload C 1 dL_law_252 rfl ?_
    refine zz_if_ne (tgt := 269) C dL_law_254 (by decide) (fun g29 => ?_) (fun g29 => ?_)
    · rw [if_neg g29] at h25
      cases h25
      exact J27 rfl
    · rw [if_pos g29] at h25
      refine zz_aload_n C 5 dL_law_257 rfl rfl ?_
      refine zz_iconst (v := (0 : Int32)) C dL_law_258 (by decide) ?_
      refine zz_lout C dL_law_259 ?_
      refine zz_iload C 0 dL_law_260 rfl ?_
      refine zz_i2l C dL_law_262 ?_
      obtain ⟨x30, h31, h25⟩ := zz_bind h25
      refine zz_lcmp C dL_law_263 ?_
      refine zz_topi (Option.some.inj h31) ?_
      refine zz_if_eq (tgt := 269) C dL_law_264 (by decide) (fun g32 => ?_) (fun g32 => ?_)
      · rw [if_pos g32] at h25
        cases h25
        exact J27 rfl
      · rw [if_neg g32] at h25
        cases h25
        exact J26 rfl
  · rw [if_neg g23] at hf
    cases hf
set_option maxHeartbeats 4000000 in
set_option maxRecDepth 100000 in
theorem mL_c1 {p : Program} {l : Launch} {e : Env} {R : Room} {s : State} {m : MethodId} {args : Array Value} {below : List Frame} {meth : Method} {c : Code} {Q : State → Prop} {D : va_G} {U : zz_U} {A : Nat → Prop} {cells slots : Nat} {ad : Nat → Nat} {ret : Option FieldType} {b L : Nat} {xs : Nat → Int32} (C : zz_C p l R s m meth c D U A RL code 9 ret [] 12) (hX : va_X b L xs s s.heap) (hbl : b < s.heap.size) (hbA : ¬ A b) (hcR : cells + 8 ≤ R.cells) (hsR : slots + 48 ≤ R.slots) (i_ : Int32) (σ τ : zz_St) (o : Nat → Int64) (r : zz_LS) (hf : fL_c1 xs L i_ σ τ o = some (some r)) (k : zz_Z p l e R s m args below meth c Q D A 9 (cells + 8) (slots + 48) (zz_wl U ad r.1 r.2.1 r.2.2) 1867 [(0, .ref b), (1, .ref (ad 0)), (2, .ref (ad 47)), (3, .ref (ad 62)), (4, .int i_)] []) : zz_Z p l e R s m args below meth c Q D A 9 cells slots (zz_wl U ad σ τ o) 272 [(0, .ref b), (1, .ref (ad 0)), (2, .ref (ad 47)), (3, .ref (ad 62)), (4, .int i_)] [] := by
  unfold fL_c1 at hf
  refine zz_aload_n C 1 dL_law_272 rfl rfl ?_
  refine zz_aload_n C 0 dL_law_273 rfl rfl ?_
  refine zz_iload C 4 dL_law_274 rfl ?_
  refine zz_iconst (v := (1 : Int32)) C dL_law_276 (by decide) ?_
  refine zz_iadd C dL_law_277 ?_
  obtain ⟨x1, h2, hf⟩ := zz_bind hf
  refine zz_sld C hX hbl hbA dL_law_278 h2 ?_
  refine zz_aload_n C 0 dL_law_279 rfl rfl ?_
  refine zz_iload C 4 dL_law_280 rfl ?_
  refine zz_iconst (v := (2 : Int32)) C dL_law_282 (by decide) ?_
  refine zz_iadd C dL_law_283 ?_
  obtain ⟨x3, h4, hf⟩ := zz_bind hf
  refine zz_sld C hX hbl hbA dL_law_284 h4 ?_
  refine zz_aload_n C 0 dL_law_285 rfl rfl ?_
  refine zz_iload C 4 dL_law_286 rfl ?_
  refine zz_iconst (v := (3 : Int32)) C dL_law_288 (by decide) ?_
  refine zz_iadd C dL_law_289 ?_
  obtain ⟨x5, h6, hf⟩ := zz_bind hf
  refine zz_sld C hX hbl hbA dL_law_290 h6 ?_
  refine zz_aload_n C 3 dL_law_291 rfl rfl ?_
  obtain ⟨x7, h8, hf⟩ := zz_bind hf
  refine zz_callSH1 (As := [.ref (ad 0), .int x1, .int x3, .int x5, .ref (ad 62)]) (rest := []) C (mL_setNames σ τ o x1 x3 x5 x7 h8) dL_law_292 rfl zwl_31 zy_L_setNames rfl (by decide) (by decide) (Nat.le_of_ble_eq_true rfl) (by omega) (by omega) rfl ?_
  refine zz_istore C dL_law_295 (by decide) (lv' := [(5, .int x7.1), (0, .ref b), (1, .ref (ad 0)), (2, .ref (ad 47)), (3, .ref (ad 62)), (4, .int i_)]) rfl ?_
  refine zz_aload_n C 3 dL_law_297 rfl rfl ?_
  refine zz_aload_n C 1 dL_law_298 rfl rfl ?_
  refine zz_iload C 5 dL_law_299 rfl ?_
  refine zz_iconst (v := (1 : Int32)) C dL_law_301 (by decide) ?_
  refine zz_iadd C dL_law_302 ?_
  obtain ⟨x9, h10, hf⟩ := zz_bind hf
  refine zz_sld C hX hbl hbA dL_law_303 h10 ?_
  refine zz_aload_n C 1 dL_law_304 rfl rfl ?_
  refine zz_iload C 5 dL_law_305 rfl ?_
  refine zz_iconst (v := (2 : Int32)) C dL_law_307 (by decide) ?_
  refine zz_iadd C dL_law_308 ?_
  obtain ⟨x11, h12, hf⟩ := zz_bind hf
  refine zz_sld C hX hbl hbA dL_law_309 h12 ?_
  refine zz_aload_n C 1 dL_law_310 rfl rfl ?_
  refine zz_iload C 5 dL_law_311 rfl ?_
  refine zz_iconst (v := (3 : Int32)) C dL_law_313 (by decide) ?_
  refine zz_iadd C dL_law_314 ?_
  obtain ⟨x13, h14, hf⟩ := zz_bind hf
  refine zz_sld C hX hbl hbA dL_law_315 h14 ?_
  obtain ⟨x15, h16, hf⟩ := zz_bind hf
  refine zz_ren (ws' := (zz_wm U ad x7.2.1 τ [zz_oc U ad x7.2.2])) rfl ?_
  refine zz_callV1 (As := [.int x9, .int x11, .int x13]) (rest := []) C 47 (mX8_setNames τ x9 x11 x13 x15 h16) dL_law_316 rfl rfl rfl zwl_30 zy_X8_setNames rfl (by decide) (by decide) (Nat.le_of_ble_eq_true rfl) (by omega) (by omega) rfl ?_
  refine zz_ren (ws' := (zz_wl U ad x7.2.1 x15.2 x7.2.2)) rfl ?_
  refine zz_istore C dL_law_319 (by decide) (lv' := [(6, .int x15.1), (5, .int x7.1), (0, .ref b), (1, .ref (ad 0)), (2, .ref (ad 47)), (3, .ref (ad 62)), (4, .int i_)]) rfl ?_
  refine zz_aload_n C 4 dL_law_321 rfl rfl ?_
  obtain ⟨x17, h18, hf⟩ := zz_bind hf
  refine zz_ren (ws' := (zz_wm U ad x7.2.1 x15.2 [zz_oc U ad x7.2.2])) rfl ?_
  refine zz_callV1 (As := []) (rest := []) C 47 (mX8_thrown x15.2 x17 h18) dL_law_322 rfl rfl rfl zwl_27 zy_X8_thrown rfl (by decide) (by decide) (Nat.le_of_ble_eq_true rfl) (by omega) (by omega) rfl ?_
  refine zz_ren (ws' := (zz_wl U ad x7.2.1 x15.2 x7.2.2)) rfl ?_
  refine zz_iload C 1 dL_law_325 rfl ?_
  refine zz_icmp_eq (tgt := 332) C dL_law_327 (by decide) (fun g19 => ?_) (fun g19 => ?_)
  · rw [if_pos g19] at hf
    obtain ⟨b20, h21, hf⟩ := zz_bind hf
    refine zz_cutI (P := b20 = true) 347 [(6, .int x15.1), (5, .int x7.1), (0, .ref b), (1, .ref (ad 0)), (2, .ref (ad 47)), (3, .ref (ad 62)), (4, .int i_)] [] (zz_wl U ad x7.2.1 x15.2 x7.2.2) (fun g24 => ?_) (fun J22 => ?_)
    · rw [if_pos g24] at hf
      cases hf
    refine zz_cutI (P := b20 = false) 349 [(6, .int x15.1), (5, .int x7.1), (0, .ref b), (1, .ref (ad 0)), (2, .ref (ad 47)), (3, .ref (ad 62)), (4, .int i_)] [] (zz_wl U ad x7.2.1 x15.2 x7.2.2) (fun g24 => ?_) (fun J23 => ?_)
    · rw [if_neg (show ¬ b20 = true by rw [g24]; decide)] at hf
      refine zz_goto (tgt := 1867) C dL_law_349 (by decide) ?_
      refine zz_sub [2, 3, 4, 5, 6] rfl ?_
      cases hf
      refine zz_widen (k := cells + 8) (n := slots + 48) (by omega) (by omega) ?_
      exact k
    refine zz_iload C 1 dL_law_332 rfl ?_
    refine zz_if_ne (tgt := 349) C dL_law_334 (by decide) (fun g25 => ?_) (fun g25 => ?_)
    · rw [if_neg g25] at h21
      cases h21
      exact J23 rfl
    · rw [if_pos g25] at h21
      refine zz_aload_n C 5 dL_law_337 rfl rfl ?_
      refine zz_iconst (v := (0 : Int32)) C dL_law_338 (by decide) ?_
      refine zz_lout C dL_law_339 ?_
      refine zz_iload C 0 dL_law_340 rfl ?_
      refine zz_i2l C dL_law_342 ?_
      obtain ⟨x26, h27, h21⟩ := zz_bind h21
      refine zz_lcmp C dL_law_343 ?_
      refine zz_topi (Option.some.inj h27) ?_
      refine zz_if_eq (tgt := 349) C dL_law_344 (by decide) (fun g28 => ?_) (fun g28 => ?_)
      · rw [if_pos g28] at h21
        cases h21
        exact J23 rfl
      · rw [if_neg g28] at h21
        cases h21
        exact J22 rfl
  · rw [if_neg g19] at hf
    cases hf
set_option maxHeartbeats 4000000 in
set_option maxRecDepth 100000 in
theorem mL_c2 {p : Program} {l : Launch} {e : Env} {R : Room} {s : State} {m : MethodId} {args : Array Value} {below : List Frame} {meth : Method} {c : Code} {Q : State → Prop} {D : va_G} {U : zz_U} {A : Nat → Prop} {cells slots : Nat} {ad : Nat → Nat} {ret : Option FieldType} {b L : Nat} {xs : Nat → Int32} (C : zz_C p l R s m meth c D U A RL code 9 ret [] 12) (hX : va_X b L xs s s.heap) (hbl : b < s.heap.size) (hbA : ¬ A b) (hcR : cells + 8 ≤ R.cells) (hsR : slots + 48 ≤ R.slots) (i_ : Int32) (σ τ : zz_St) (o : Nat → Int64) (r : zz_LS) (hf : fL_c2 xs L i_ σ τ o = some (some r)) (k : zz_Z p l e R s m args below meth c Q D A 9 (cells + 8) (slots + 48) (zz_wl U ad r.1 r.2.1 r.2.2) 1867 [(0, .ref b), (1, .ref (ad 0)), (2, .ref (ad 47)), (3, .ref (ad 62)), (4, .int i_)] []) : zz_Z p l e R s m args below meth c Q D A 9 cells slots (zz_wl U ad σ τ o) 352 [(0, .ref b), (1, .ref (ad 0)), (2, .ref (ad 47)), (3, .ref (ad 62)), (4, .int i_)] [] := by
  unfold fL_c2 at hf
  refine zz_aload_n C 1 dL_law_352 rfl rfl ?_
  refine zz_aload_n C 0 dL_law_353 rfl rfl ?_
  refine zz_iload C 4 dL_law_354 rfl ?_
  refine zz_iconst (v := (1 : Int32)) C dL_law_356 (by decide) ?_
  refine zz_iadd C dL_law_357 ?_
  obtain ⟨x1, h2, hf⟩ := zz_bind hf
  refine zz_sld C hX hbl hbA dL_law_358 h2 ?_
  refine zz_aload_n C 0 dL_law_359 rfl rfl ?_
  refine zz_iload C 4 dL_law_360 rfl ?_
  refine zz_iconst (v := (2 : Int32)) C dL_law_362 (by decide) ?_
  refine zz_iadd C dL_law_363 ?_
  obtain ⟨x3, h4, hf⟩ := zz_bind hf
  refine zz_sld C hX hbl hbA dL_law_364 h4 ?_
  refine zz_aload_n C 3 dL_law_365 rfl rfl ?_
  obtain ⟨x5, h6, hf⟩ := zz_bind hf
  refine zz_callSH1 (As := [.ref (ad 0), .int x1, .int x3, .ref (ad 62)]) (rest := []) C (mL_names σ τ o x1 x3 x5 h6) dL_law_366 rfl zwl_33 zy_L_names rfl (by decide) (by decide) (Nat.le_of_ble_eq_true rfl) (by omega) (by omega) rfl ?_
  refine zz_istore C dL_law_369 (by decide) (lv' := [(5, .int x5.1), (0, .ref b), (1, .ref (ad 0)), (2, .ref (ad 47)), (3, .ref (ad 62)), (4, .int i_)]) rfl ?_
  refine zz_aload_n C 3 dL_law_371 rfl rfl ?_
  refine zz_aload_n C 1 dL_law_372 rfl rfl ?_
  refine zz_iload C 5 dL_law_373 rfl ?_
  refine zz_iconst (v := (1 : Int32)) C dL_law_375 (by decide) ?_
  refine zz_iadd C dL_law_376 ?_
  obtain ⟨x7, h8, hf⟩ := zz_bind hf
  refine zz_sld C hX hbl hbA dL_law_377 h8 ?_
  refine zz_aload_n C 1 dL_law_378 rfl rfl ?_
  refine zz_iload C 5 dL_law_379 rfl ?_
  refine zz_iconst (v := (2 : Int32)) C dL_law_381 (by decide) ?_
  refine zz_iadd C dL_law_382 ?_
  obtain ⟨x9, h10, hf⟩ := zz_bind hf
  refine zz_sld C hX hbl hbA dL_law_383 h10 ?_
  obtain ⟨x11, h12, hf⟩ := zz_bind hf
  refine zz_ren (ws' := (zz_wm U ad x5.2.1 τ [zz_oc U ad x5.2.2])) rfl ?_
  refine zz_callV1 (As := [.int x7, .int x9]) (rest := []) C 47 (mX8_names τ x7 x9 x11 h12) dL_law_384 rfl rfl rfl zwl_32 zy_X8_names rfl (by decide) (by decide) (Nat.le_of_ble_eq_true rfl) (by omega) (by omega) rfl ?_
  refine zz_ren (ws' := (zz_wl U ad x5.2.1 x11.2 x5.2.2)) rfl ?_
  refine zz_istore C dL_law_387 (by decide) (lv' := [(6, .int x11.1), (5, .int x5.1), (0, .ref b), (1, .ref (ad 0)), (2, .ref (ad 47)), (3, .ref (ad 62)), (4, .int i_)]) rfl ?_
  refine zz_aload_n C 4 dL_law_389 rfl rfl ?_
  obtain ⟨x13, h14, hf⟩ := zz_bind hf
  refine zz_ren (ws' := (zz_wm U ad x5.2.1 x11.2 [zz_oc U ad x5.2.2])) rfl ?_
  refine zz_callV1 (As := []) (rest := []) C 47 (mX8_thrown x11.2 x13 h14) dL_law_390 rfl rfl rfl zwl_27 zy_X8_thrown rfl (by decide) (by decide) (Nat.le_of_ble_eq_true rfl) (by omega) (by omega) rfl ?_
  refine zz_ren (ws' := (zz_wl U ad x5.2.1 x11.2 x5.2.2)) rfl ?_
  refine zz_iload C 1 dL_law_393 rfl ?_
  refine zz_icmp_eq (tgt := 400) C dL_law_395 (by decide) (fun g15 => ?_) (fun g15 => ?_)
  · rw [if_pos g15] at hf
    obtain ⟨b16, h17, hf⟩ := zz_bind hf
    refine zz_cutI (P := b16 = true) 415 [(6, .int x11.1), (5, .int x5.1), (0, .ref b), (1, .ref (ad 0)), (2, .ref (ad 47)), (3, .ref (ad 62)), (4, .int i_)] [] (zz_wl U ad x5.2.1 x11.2 x5.2.2) (fun g20 => ?_) (fun J18 => ?_)
    · rw [if_pos g20] at hf
      cases hf
    refine zz_cutI (P := b16 = false) 417 [(6, .int x11.1), (5, .int x5.1), (0, .ref b), (1, .ref (ad 0)), (2, .ref (ad 47)), (3, .ref (ad 62)), (4, .int i_)] [] (zz_wl U ad x5.2.1 x11.2 x5.2.2) (fun g20 => ?_) (fun J19 => ?_)
    · rw [if_neg (show ¬ b16 = true by rw [g20]; decide)] at hf
      refine zz_goto (tgt := 1867) C dL_law_417 (by decide) ?_
      refine zz_sub [2, 3, 4, 5, 6] rfl ?_
      cases hf
      refine zz_widen (k := cells + 8) (n := slots + 48) (by omega) (by omega) ?_
      exact k
    refine zz_iload C 1 dL_law_400 rfl ?_
    refine zz_if_ne (tgt := 417) C dL_law_402 (by decide) (fun g21 => ?_) (fun g21 => ?_)
    · rw [if_neg g21] at h17
      cases h17
      exact J19 rfl
    · rw [if_pos g21] at h17
      refine zz_aload_n C 5 dL_law_405 rfl rfl ?_
      refine zz_iconst (v := (0 : Int32)) C dL_law_406 (by decide) ?_
      refine zz_lout C dL_law_407 ?_
      refine zz_iload C 0 dL_law_408 rfl ?_
      refine zz_i2l C dL_law_410 ?_
      obtain ⟨x22, h23, h17⟩ := zz_bind h17
      refine zz_lcmp C dL_law_411 ?_
      refine zz_topi (Option.some.inj h23) ?_
      refine zz_if_eq (tgt := 417) C dL_law_412 (by decide) (fun g24 => ?_) (fun g24 => ?_)
      · rw [if_pos g24] at h17
        cases h17
        exact J19 rfl
      · rw [if_neg g24] at h17
        cases h17
        exact J18 rfl
  · rw [if_neg g15] at hf
    cases hf
set_option maxHeartbeats 4000000 in
set_option maxRecDepth 100000 in
theorem mL_c3 {p : Program} {l : Launch} {e : Env} {R : Room} {s : State} {m : MethodId} {args : Array Value} {below : List Frame} {meth : Method} {c : Code} {Q : State → Prop} {D : va_G} {U : zz_U} {A : Nat → Prop} {cells slots : Nat} {ad : Nat → Nat} {ret : Option FieldType} {b L : Nat} {xs : Nat → Int32} (C : zz_C p l R s m meth c D U A RL code 9 ret [] 12) (hX : va_X b L xs s s.heap) (hbl : b < s.heap.size) (hbA : ¬ A b) (hcR : cells + 8 ≤ R.cells) (hsR : slots + 48 ≤ R.slots) (i_ : Int32) (σ τ : zz_St) (o : Nat → Int64) (r : zz_LS) (hf : fL_c3 xs L i_ σ τ o = some (some r)) (k : zz_Z p l e R s m args below meth c Q D A 9 (cells + 8) (slots + 48) (zz_wl U ad r.1 r.2.1 r.2.2) 1867 [(0, .ref b), (1, .ref (ad 0)), (2, .ref (ad 47)), (3, .ref (ad 62)), (4, .int i_)] []) : zz_Z p l e R s m args below meth c Q D A 9 cells slots (zz_wl U ad σ τ o) 420 [(0, .ref b), (1, .ref (ad 0)), (2, .ref (ad 47)), (3, .ref (ad 62)), (4, .int i_)] [] := by
  unfold fL_c3 at hf
  refine zz_aload_n C 1 dL_law_420 rfl rfl ?_
  refine zz_aload_n C 0 dL_law_421 rfl rfl ?_
  refine zz_iload C 4 dL_law_422 rfl ?_
  refine zz_iconst (v := (1 : Int32)) C dL_law_424 (by decide) ?_
  refine zz_iadd C dL_law_425 ?_
  obtain ⟨x1, h2, hf⟩ := zz_bind hf
  refine zz_sld C hX hbl hbA dL_law_426 h2 ?_
  obtain ⟨b3, h4, hf⟩ := zz_bind hf
  refine zz_cut 441 [(0, .ref b), (1, .ref (ad 0)), (2, .ref (ad 47)), (3, .ref (ad 62)), (4, .int i_)] [.int (zz_bi b3), .int x1, .ref (ad 0)] (zz_wl U ad σ τ o) ?_ (fun J5 => ?_)
  · refine zz_aload_n C 0 dL_law_441 rfl rfl ?_
    refine zz_iload C 4 dL_law_442 rfl ?_
    refine zz_iconst (v := (3 : Int32)) C dL_law_444 (by decide) ?_
    refine zz_iadd C dL_law_445 ?_
    obtain ⟨x9, h10, hf⟩ := zz_bind hf
    refine zz_sld C hX hbl hbA dL_law_446 h10 ?_
    refine zz_aload_n C 3 dL_law_447 rfl rfl ?_
    obtain ⟨x11, h12, hf⟩ := zz_bind hf
    refine zz_callSH1 (As := [.ref (ad 0), .int x1, .int (zz_bi b3), .int x9, .ref (ad 62)]) (rest := []) C (mL_setName σ τ o x1 (zz_bi b3) x9 x11 h12) dL_law_448 rfl zwl_35 zy_L_setName rfl (by decide) (by decide) (Nat.le_of_ble_eq_true rfl) (by omega) (by omega) rfl ?_
    refine zz_istore C dL_law_451 (by decide) (lv' := [(5, .int x11.1), (0, .ref b), (1, .ref (ad 0)), (2, .ref (ad 47)), (3, .ref (ad 62)), (4, .int i_)]) rfl ?_
    refine zz_aload_n C 3 dL_law_453 rfl rfl ?_
    refine zz_aload_n C 1 dL_law_454 rfl rfl ?_
    refine zz_iload C 5 dL_law_455 rfl ?_
    refine zz_iconst (v := (1 : Int32)) C dL_law_457 (by decide) ?_
    refine zz_iadd C dL_law_458 ?_
    obtain ⟨x13, h14, hf⟩ := zz_bind hf
    refine zz_sld C hX hbl hbA dL_law_459 h14 ?_
    obtain ⟨b15, h16, hf⟩ := zz_bind hf
    refine zz_cut 474 [(5, .int x11.1), (0, .ref b), (1, .ref (ad 0)), (2, .ref (ad 47)), (3, .ref (ad 62)), (4, .int i_)] [.int (zz_bi b15), .int x13, .ref (ad 47)] (zz_wl U ad x11.2.1 τ x11.2.2) ?_ (fun J17 => ?_)
    · refine zz_aload_n C 1 dL_law_474 rfl rfl ?_
      refine zz_iload C 5 dL_law_475 rfl ?_
      refine zz_iconst (v := (3 : Int32)) C dL_law_477 (by decide) ?_
      refine zz_iadd C dL_law_478 ?_
      obtain ⟨x21, h22, hf⟩ := zz_bind hf
      refine zz_sld C hX hbl hbA dL_law_479 h22 ?_
      obtain ⟨x23, h24, hf⟩ := zz_bind hf
      refine zz_ren (ws' := (zz_wm U ad x11.2.1 τ [zz_oc U ad x11.2.2])) rfl ?_
      refine zz_callV1 (As := [.int x13, .int (zz_bi b15), .int x21]) (rest := []) C 47 (mX8_setName τ x13 (zz_bi b15) x21 x23 h24) dL_law_480 rfl rfl rfl zwl_34 zy_X8_setName rfl (by decide) (by decide) (Nat.le_of_ble_eq_true rfl) (by omega) (by omega) rfl ?_
      refine zz_ren (ws' := (zz_wl U ad x11.2.1 x23.2 x11.2.2)) rfl ?_
      refine zz_istore C dL_law_483 (by decide) (lv' := [(6, .int x23.1), (5, .int x11.1), (0, .ref b), (1, .ref (ad 0)), (2, .ref (ad 47)), (3, .ref (ad 62)), (4, .int i_)]) rfl ?_
      refine zz_aload_n C 4 dL_law_485 rfl rfl ?_
      obtain ⟨x25, h26, hf⟩ := zz_bind hf
      refine zz_ren (ws' := (zz_wm U ad x11.2.1 x23.2 [zz_oc U ad x11.2.2])) rfl ?_
      refine zz_callV1 (As := []) (rest := []) C 47 (mX8_thrown x23.2 x25 h26) dL_law_486 rfl rfl rfl zwl_27 zy_X8_thrown rfl (by decide) (by decide) (Nat.le_of_ble_eq_true rfl) (by omega) (by omega) rfl ?_
      refine zz_ren (ws' := (zz_wl U ad x11.2.1 x23.2 x11.2.2)) rfl ?_
      refine zz_iload C 1 dL_law_489 rfl ?_
      refine zz_icmp_eq (tgt := 496) C dL_law_491 (by decide) (fun g27 => ?_) (fun g27 => ?_)
      · rw [if_pos g27] at hf
        obtain ⟨b28, h29, hf⟩ := zz_bind hf
        refine zz_cutI (P := b28 = true) 518 [(6, .int x23.1), (5, .int x11.1), (0, .ref b), (1, .ref (ad 0)), (2, .ref (ad 47)), (3, .ref (ad 62)), (4, .int i_)] [] (zz_wl U ad x11.2.1 x23.2 x11.2.2) (fun g32 => ?_) (fun J30 => ?_)
        · rw [if_pos g32] at hf
          cases hf
        refine zz_cutI (P := b28 = false) 520 [(6, .int x23.1), (5, .int x11.1), (0, .ref b), (1, .ref (ad 0)), (2, .ref (ad 47)), (3, .ref (ad 62)), (4, .int i_)] [] (zz_wl U ad x11.2.1 x23.2 x11.2.2) (fun g32 => ?_) (fun J31 => ?_)
        · rw [if_neg (show ¬ b28 = true by rw [g32]; decide)] at hf
          refine zz_goto (tgt := 1867) C dL_law_520 (by decide) ?_
          refine zz_sub [2, 3, 4, 5, 6] rfl ?_
          cases hf
          refine zz_widen (k := cells + 8) (n := slots + 48) (by omega) (by omega) ?_
          exact k
        refine zz_iload C 1 dL_law_496 rfl ?_
        refine zz_if_ne (tgt := 520) C dL_law_498 (by decide) (fun g33 => ?_) (fun g33 => ?_)
        · rw [if_neg g33] at h29
          cases h29
          exact J31 rfl
        · rw [if_pos g33] at h29
          refine zz_aload_n C 5 dL_law_501 rfl rfl ?_
          refine zz_iconst (v := (0 : Int32)) C dL_law_502 (by decide) ?_
          refine zz_lout C dL_law_503 ?_
          obtain ⟨x34, h35, h29⟩ := zz_bind h29
          refine zz_cut 514 [(6, .int x23.1), (5, .int x11.1), (0, .ref b), (1, .ref (ad 0)), (2, .ref (ad 47)), (3, .ref (ad 62)), (4, .int i_)] [.long x34, .long (x11.2.2 0)] (zz_wl U ad x11.2.1 x23.2 x11.2.2) ?_ (fun J36 => ?_)
          · obtain ⟨x38, h39, h29⟩ := zz_bind h29
            refine zz_lcmp C dL_law_514 ?_
            refine zz_topi (Option.some.inj h39) ?_
            refine zz_if_eq (tgt := 520) C dL_law_515 (by decide) (fun g40 => ?_) (fun g40 => ?_)
            · rw [if_pos g40] at h29
              cases h29
              exact J31 rfl
            · rw [if_neg g40] at h29
              cases h29
              exact J30 rfl
          refine zz_iload C 0 dL_law_504 rfl ?_
          refine zz_if_eq (tgt := 513) C dL_law_506 (by decide) (fun g37 => ?_) (fun g37 => ?_)
          · rw [if_pos g37] at h35
            refine zz_lconst (v := (0 : Int64)) C dL_law_513 (by decide) ?_
            cases h35
            exact J36
          · rw [if_neg g37] at h35
            refine zz_lconst (v := (1 : Int64)) C dL_law_509 (by decide) ?_
            refine zz_goto (tgt := 514) C dL_law_510 (by decide) ?_
            cases h35
            exact J36
      · rw [if_neg g27] at hf
        cases hf
    refine zz_aload_n C 1 dL_law_460 rfl rfl ?_
    refine zz_iload C 5 dL_law_461 rfl ?_
    refine zz_iconst (v := (2 : Int32)) C dL_law_463 (by decide) ?_
    refine zz_iadd C dL_law_464 ?_
    obtain ⟨x18, h19, h16⟩ := zz_bind h16
    refine zz_sld C hX hbl hbA dL_law_465 h19 ?_
    refine zz_if_eq (tgt := 473) C dL_law_466 (by decide) (fun g20 => ?_) (fun g20 => ?_)
    · rw [if_pos g20] at h16
      refine zz_iconst (v := 0) C dL_law_473 (by decide) ?_
      cases h16
      exact J17
    · rw [if_neg g20] at h16
      refine zz_iconst (v := 1) C dL_law_469 (by decide) ?_
      refine zz_goto (tgt := 474) C dL_law_470 (by decide) ?_
      cases h16
      exact J17
  refine zz_aload_n C 0 dL_law_427 rfl rfl ?_
  refine zz_iload C 4 dL_law_428 rfl ?_
  refine zz_iconst (v := (2 : Int32)) C dL_law_430 (by decide) ?_
  refine zz_iadd C dL_law_431 ?_
  obtain ⟨x6, h7, h4⟩ := zz_bind h4
  refine zz_sld C hX hbl hbA dL_law_432 h7 ?_
  refine zz_if_eq (tgt := 440) C dL_law_433 (by decide) (fun g8 => ?_) (fun g8 => ?_)
  · rw [if_pos g8] at h4
    refine zz_iconst (v := 0) C dL_law_440 (by decide) ?_
    cases h4
    exact J5
  · rw [if_neg g8] at h4
    refine zz_iconst (v := 1) C dL_law_436 (by decide) ?_
    refine zz_goto (tgt := 441) C dL_law_437 (by decide) ?_
    cases h4
    exact J5
set_option maxHeartbeats 4000000 in
set_option maxRecDepth 100000 in
theorem mL_c4 {p : Program} {l : Launch} {e : Env} {R : Room} {s : State} {m : MethodId} {args : Array Value} {below : List Frame} {meth : Method} {c : Code} {Q : State → Prop} {D : va_G} {U : zz_U} {A : Nat → Prop} {cells slots : Nat} {ad : Nat → Nat} {ret : Option FieldType} {b L : Nat} {xs : Nat → Int32} (C : zz_C p l R s m meth c D U A RL code 9 ret [] 12) (hX : va_X b L xs s s.heap) (hbl : b < s.heap.size) (hbA : ¬ A b) (hcR : cells + 8 ≤ R.cells) (hsR : slots + 48 ≤ R.slots) (i_ : Int32) (σ τ : zz_St) (o : Nat → Int64) (r : zz_LS) (hf : fL_c4 xs L i_ σ τ o = some (some r)) (k : zz_Z p l e R s m args below meth c Q D A 9 (cells + 8) (slots + 48) (zz_wl U ad r.1 r.2.1 r.2.2) 1867 [(0, .ref b), (1, .ref (ad 0)), (2, .ref (ad 47)), (3, .ref (ad 62)), (4, .int i_)] []) : zz_Z p l e R s m args below meth c Q D A 9 cells slots (zz_wl U ad σ τ o) 523 [(0, .ref b), (1, .ref (ad 0)), (2, .ref (ad 47)), (3, .ref (ad 62)), (4, .int i_)] [] := by
  unfold fL_c4 at hf
  refine zz_aload_n C 1 dL_law_523 rfl rfl ?_
  refine zz_aload_n C 3 dL_law_524 rfl rfl ?_
  obtain ⟨x1, h2, hf⟩ := zz_bind hf
  refine zz_callSH1 (As := [.ref (ad 0), .ref (ad 62)]) (rest := []) C (mL_dropPiece σ τ o x1 h2) dL_law_525 rfl zwl_37 zy_L_dropPiece rfl (by decide) (by decide) (Nat.le_of_ble_eq_true rfl) (by omega) (by omega) rfl ?_
  refine zz_istore C dL_law_528 (by decide) (lv' := [(5, .int x1.1), (0, .ref b), (1, .ref (ad 0)), (2, .ref (ad 47)), (3, .ref (ad 62)), (4, .int i_)]) rfl ?_
  refine zz_aload_n C 3 dL_law_530 rfl rfl ?_
  obtain ⟨x3, h4, hf⟩ := zz_bind hf
  refine zz_ren (ws' := (zz_wm U ad x1.2.1 τ [zz_oc U ad x1.2.2])) rfl ?_
  refine zz_callV1 (As := []) (rest := []) C 47 (mX8_dropPiece τ x3 h4) dL_law_531 rfl rfl rfl zwl_36 zy_X8_dropPiece rfl (by decide) (by decide) (Nat.le_of_ble_eq_true rfl) (by omega) (by omega) rfl ?_
  refine zz_ren (ws' := (zz_wl U ad x1.2.1 x3.2 x1.2.2)) rfl ?_
  refine zz_istore C dL_law_534 (by decide) (lv' := [(6, .int x3.1), (5, .int x1.1), (0, .ref b), (1, .ref (ad 0)), (2, .ref (ad 47)), (3, .ref (ad 62)), (4, .int i_)]) rfl ?_
  refine zz_aload_n C 4 dL_law_536 rfl rfl ?_
  obtain ⟨x5, h6, hf⟩ := zz_bind hf
  refine zz_ren (ws' := (zz_wm U ad x1.2.1 x3.2 [zz_oc U ad x1.2.2])) rfl ?_
  refine zz_callV1 (As := []) (rest := []) C 47 (mX8_thrown x3.2 x5 h6) dL_law_537 rfl rfl rfl zwl_27 zy_X8_thrown rfl (by decide) (by decide) (Nat.le_of_ble_eq_true rfl) (by omega) (by omega) rfl ?_
  refine zz_ren (ws' := (zz_wl U ad x1.2.1 x3.2 x1.2.2)) rfl ?_
  refine zz_iload C 1 dL_law_540 rfl ?_
  refine zz_icmp_eq (tgt := 547) C dL_law_542 (by decide) (fun g7 => ?_) (fun g7 => ?_)
  · rw [if_pos g7] at hf
    obtain ⟨b8, h9, hf⟩ := zz_bind hf
    refine zz_cutI (P := b8 = true) 562 [(6, .int x3.1), (5, .int x1.1), (0, .ref b), (1, .ref (ad 0)), (2, .ref (ad 47)), (3, .ref (ad 62)), (4, .int i_)] [] (zz_wl U ad x1.2.1 x3.2 x1.2.2) (fun g12 => ?_) (fun J10 => ?_)
    · rw [if_pos g12] at hf
      cases hf
    refine zz_cutI (P := b8 = false) 564 [(6, .int x3.1), (5, .int x1.1), (0, .ref b), (1, .ref (ad 0)), (2, .ref (ad 47)), (3, .ref (ad 62)), (4, .int i_)] [] (zz_wl U ad x1.2.1 x3.2 x1.2.2) (fun g12 => ?_) (fun J11 => ?_)
    · rw [if_neg (show ¬ b8 = true by rw [g12]; decide)] at hf
      refine zz_goto (tgt := 1867) C dL_law_564 (by decide) ?_
      refine zz_sub [2, 3, 4, 5, 6] rfl ?_
      cases hf
      refine zz_widen (k := cells + 8) (n := slots + 48) (by omega) (by omega) ?_
      exact k
    refine zz_iload C 1 dL_law_547 rfl ?_
    refine zz_if_ne (tgt := 564) C dL_law_549 (by decide) (fun g13 => ?_) (fun g13 => ?_)
    · rw [if_neg g13] at h9
      cases h9
      exact J11 rfl
    · rw [if_pos g13] at h9
      refine zz_aload_n C 5 dL_law_552 rfl rfl ?_
      refine zz_iconst (v := (0 : Int32)) C dL_law_553 (by decide) ?_
      refine zz_lout C dL_law_554 ?_
      refine zz_iload C 0 dL_law_555 rfl ?_
      refine zz_i2l C dL_law_557 ?_
      obtain ⟨x14, h15, h9⟩ := zz_bind h9
      refine zz_lcmp C dL_law_558 ?_
      refine zz_topi (Option.some.inj h15) ?_
      refine zz_if_eq (tgt := 564) C dL_law_559 (by decide) (fun g16 => ?_) (fun g16 => ?_)
      · rw [if_pos g16] at h9
        cases h9
        exact J11 rfl
      · rw [if_neg g16] at h9
        cases h9
        exact J10 rfl
  · rw [if_neg g7] at hf
    cases hf
set_option maxHeartbeats 4000000 in
set_option maxRecDepth 100000 in
theorem mL_c5 {p : Program} {l : Launch} {e : Env} {R : Room} {s : State} {m : MethodId} {args : Array Value} {below : List Frame} {meth : Method} {c : Code} {Q : State → Prop} {D : va_G} {U : zz_U} {A : Nat → Prop} {cells slots : Nat} {ad : Nat → Nat} {ret : Option FieldType} {b L : Nat} {xs : Nat → Int32} (C : zz_C p l R s m meth c D U A RL code 9 ret [] 12) (hX : va_X b L xs s s.heap) (hbl : b < s.heap.size) (hbA : ¬ A b) (hcR : cells + 8 ≤ R.cells) (hsR : slots + 48 ≤ R.slots) (i_ : Int32) (σ τ : zz_St) (o : Nat → Int64) (r : zz_LS) (hf : fL_c5 xs L i_ σ τ o = some (some r)) (k : zz_Z p l e R s m args below meth c Q D A 9 (cells + 8) (slots + 48) (zz_wl U ad r.1 r.2.1 r.2.2) 1867 [(0, .ref b), (1, .ref (ad 0)), (2, .ref (ad 47)), (3, .ref (ad 62)), (4, .int i_)] []) : zz_Z p l e R s m args below meth c Q D A 9 cells slots (zz_wl U ad σ τ o) 567 [(0, .ref b), (1, .ref (ad 0)), (2, .ref (ad 47)), (3, .ref (ad 62)), (4, .int i_)] [] := by
  unfold fL_c5 at hf
  refine zz_aload_n C 1 dL_law_567 rfl rfl ?_
  obtain ⟨x1, h2, hf⟩ := zz_bind hf
  refine zz_ren (ws' := (zz_wc U ad σ (zz_cm U ad τ ++ [zz_oc U ad o]))) rfl ?_
  refine zz_callV1 (As := []) (rest := []) C 0 (mX7_pieceCount σ x1 h2) dL_law_568 rfl rfl rfl zwl_39 zy_X7_pieceCount rfl (by decide) (by decide) (Nat.le_of_ble_eq_true rfl) (by omega) (by omega) rfl ?_
  refine zz_ren (ws' := (zz_wl U ad σ τ o)) rfl ?_
  refine zz_aload_n C 2 dL_law_571 rfl rfl ?_
  obtain ⟨x3, h4, hf⟩ := zz_bind hf
  refine zz_ren (ws' := (zz_wm U ad σ τ [zz_oc U ad o])) rfl ?_
  refine zz_callV1 (As := []) (rest := [.int x1]) C 47 (mX8_pieceCount τ x3 h4) dL_law_572 rfl rfl rfl zwl_38 zy_X8_pieceCount rfl (by decide) (by decide) (Nat.le_of_ble_eq_true rfl) (by omega) (by omega) rfl ?_
  refine zz_ren (ws' := (zz_wl U ad σ x3.2 o)) rfl ?_
  refine zz_icmp_eq (tgt := 1867) C dL_law_575 (by decide) (fun g5 => ?_) (fun g5 => ?_)
  · rw [if_pos g5] at hf
    cases hf
    refine zz_widen (k := cells + 8) (n := slots + 48) (by omega) (by omega) ?_
    exact k
  · rw [if_neg g5] at hf
    cases hf
set_option maxHeartbeats 4000000 in
set_option maxRecDepth 100000 in
theorem mL_c6 {p : Program} {l : Launch} {e : Env} {R : Room} {s : State} {m : MethodId} {args : Array Value} {below : List Frame} {meth : Method} {c : Code} {Q : State → Prop} {D : va_G} {U : zz_U} {A : Nat → Prop} {cells slots : Nat} {ad : Nat → Nat} {ret : Option FieldType} {b L : Nat} {xs : Nat → Int32} (C : zz_C p l R s m meth c D U A RL code 9 ret [] 12) (hX : va_X b L xs s s.heap) (hbl : b < s.heap.size) (hbA : ¬ A b) (hcR : cells + 8 ≤ R.cells) (hsR : slots + 48 ≤ R.slots) (i_ : Int32) (σ τ : zz_St) (o : Nat → Int64) (r : zz_LS) (hf : fL_c6 xs L i_ σ τ o = some (some r)) (k : zz_Z p l e R s m args below meth c Q D A 9 (cells + 8) (slots + 48) (zz_wl U ad r.1 r.2.1 r.2.2) 1867 [(0, .ref b), (1, .ref (ad 0)), (2, .ref (ad 47)), (3, .ref (ad 62)), (4, .int i_)] []) : zz_Z p l e R s m args below meth c Q D A 9 cells slots (zz_wl U ad σ τ o) 580 [(0, .ref b), (1, .ref (ad 0)), (2, .ref (ad 47)), (3, .ref (ad 62)), (4, .int i_)] [] := by
  unfold fL_c6 at hf
  refine zz_aload_n C 1 dL_law_580 rfl rfl ?_
  refine zz_aload_n C 0 dL_law_581 rfl rfl ?_
  refine zz_iload C 4 dL_law_582 rfl ?_
  refine zz_iconst (v := (1 : Int32)) C dL_law_584 (by decide) ?_
  refine zz_iadd C dL_law_585 ?_
  obtain ⟨x1, h2, hf⟩ := zz_bind hf
  refine zz_sld C hX hbl hbA dL_law_586 h2 ?_
  refine zz_aload_n C 0 dL_law_587 rfl rfl ?_
  refine zz_iload C 4 dL_law_588 rfl ?_
  refine zz_iconst (v := (2 : Int32)) C dL_law_590 (by decide) ?_
  refine zz_iadd C dL_law_591 ?_
  obtain ⟨x3, h4, hf⟩ := zz_bind hf
  refine zz_sld C hX hbl hbA dL_law_592 h4 ?_
  refine zz_aload_n C 3 dL_law_593 rfl rfl ?_
  obtain ⟨x5, h6, hf⟩ := zz_bind hf
  refine zz_callSH1 (As := [.ref (ad 0), .int x1, .int x3, .ref (ad 62)]) (rest := []) C (mL_setWeight σ τ o x1 x3 x5 h6) dL_law_594 rfl zwl_41 zy_L_setWeight rfl (by decide) (by decide) (Nat.le_of_ble_eq_true rfl) (by omega) (by omega) rfl ?_
  refine zz_istore C dL_law_597 (by decide) (lv' := [(5, .int x5.1), (0, .ref b), (1, .ref (ad 0)), (2, .ref (ad 47)), (3, .ref (ad 62)), (4, .int i_)]) rfl ?_
  refine zz_aload_n C 3 dL_law_599 rfl rfl ?_
  refine zz_aload_n C 1 dL_law_600 rfl rfl ?_
  refine zz_iload C 5 dL_law_601 rfl ?_
  refine zz_iconst (v := (1 : Int32)) C dL_law_603 (by decide) ?_
  refine zz_iadd C dL_law_604 ?_
  obtain ⟨x7, h8, hf⟩ := zz_bind hf
  refine zz_sld C hX hbl hbA dL_law_605 h8 ?_
  refine zz_aload_n C 1 dL_law_606 rfl rfl ?_
  refine zz_iload C 5 dL_law_607 rfl ?_
  refine zz_iconst (v := (2 : Int32)) C dL_law_609 (by decide) ?_
  refine zz_iadd C dL_law_610 ?_
  obtain ⟨x9, h10, hf⟩ := zz_bind hf
  refine zz_sld C hX hbl hbA dL_law_611 h10 ?_
  obtain ⟨x11, h12, hf⟩ := zz_bind hf
  refine zz_ren (ws' := (zz_wm U ad x5.2.1 τ [zz_oc U ad x5.2.2])) rfl ?_
  refine zz_callV1 (As := [.int x7, .int x9]) (rest := []) C 47 (mX8_setWeight τ x7 x9 x11 h12) dL_law_612 rfl rfl rfl zwl_40 zy_X8_setWeight rfl (by decide) (by decide) (Nat.le_of_ble_eq_true rfl) (by omega) (by omega) rfl ?_
  refine zz_ren (ws' := (zz_wl U ad x5.2.1 x11.2 x5.2.2)) rfl ?_
  refine zz_istore C dL_law_615 (by decide) (lv' := [(6, .int x11.1), (5, .int x5.1), (0, .ref b), (1, .ref (ad 0)), (2, .ref (ad 47)), (3, .ref (ad 62)), (4, .int i_)]) rfl ?_
  refine zz_aload_n C 4 dL_law_617 rfl rfl ?_
  obtain ⟨x13, h14, hf⟩ := zz_bind hf
  refine zz_ren (ws' := (zz_wm U ad x5.2.1 x11.2 [zz_oc U ad x5.2.2])) rfl ?_
  refine zz_callV1 (As := []) (rest := []) C 47 (mX8_thrown x11.2 x13 h14) dL_law_618 rfl rfl rfl zwl_27 zy_X8_thrown rfl (by decide) (by decide) (Nat.le_of_ble_eq_true rfl) (by omega) (by omega) rfl ?_
  refine zz_ren (ws' := (zz_wl U ad x5.2.1 x11.2 x5.2.2)) rfl ?_
  refine zz_iload C 1 dL_law_621 rfl ?_
  refine zz_icmp_eq (tgt := 628) C dL_law_623 (by decide) (fun g15 => ?_) (fun g15 => ?_)
  · rw [if_pos g15] at hf
    obtain ⟨b16, h17, hf⟩ := zz_bind hf
    refine zz_cutI (P := b16 = true) 643 [(6, .int x11.1), (5, .int x5.1), (0, .ref b), (1, .ref (ad 0)), (2, .ref (ad 47)), (3, .ref (ad 62)), (4, .int i_)] [] (zz_wl U ad x5.2.1 x11.2 x5.2.2) (fun g20 => ?_) (fun J18 => ?_)
    · rw [if_pos g20] at hf
      cases hf
    refine zz_cutI (P := b16 = false) 645 [(6, .int x11.1), (5, .int x5.1), (0, .ref b), (1, .ref (ad 0)), (2, .ref (ad 47)), (3, .ref (ad 62)), (4, .int i_)] [] (zz_wl U ad x5.2.1 x11.2 x5.2.2) (fun g20 => ?_) (fun J19 => ?_)
    · rw [if_neg (show ¬ b16 = true by rw [g20]; decide)] at hf
      refine zz_goto (tgt := 1867) C dL_law_645 (by decide) ?_
      refine zz_sub [2, 3, 4, 5, 6] rfl ?_
      cases hf
      refine zz_widen (k := cells + 8) (n := slots + 48) (by omega) (by omega) ?_
      exact k
    refine zz_iload C 1 dL_law_628 rfl ?_
    refine zz_if_ne (tgt := 645) C dL_law_630 (by decide) (fun g21 => ?_) (fun g21 => ?_)
    · rw [if_neg g21] at h17
      cases h17
      exact J19 rfl
    · rw [if_pos g21] at h17
      refine zz_aload_n C 5 dL_law_633 rfl rfl ?_
      refine zz_iconst (v := (0 : Int32)) C dL_law_634 (by decide) ?_
      refine zz_lout C dL_law_635 ?_
      refine zz_iload C 0 dL_law_636 rfl ?_
      refine zz_i2l C dL_law_638 ?_
      obtain ⟨x22, h23, h17⟩ := zz_bind h17
      refine zz_lcmp C dL_law_639 ?_
      refine zz_topi (Option.some.inj h23) ?_
      refine zz_if_eq (tgt := 645) C dL_law_640 (by decide) (fun g24 => ?_) (fun g24 => ?_)
      · rw [if_pos g24] at h17
        cases h17
        exact J19 rfl
      · rw [if_neg g24] at h17
        cases h17
        exact J18 rfl
  · rw [if_neg g15] at hf
    cases hf
set_option maxHeartbeats 4000000 in
set_option maxRecDepth 100000 in
theorem mL_c7 {p : Program} {l : Launch} {e : Env} {R : Room} {s : State} {m : MethodId} {args : Array Value} {below : List Frame} {meth : Method} {c : Code} {Q : State → Prop} {D : va_G} {U : zz_U} {A : Nat → Prop} {cells slots : Nat} {ad : Nat → Nat} {ret : Option FieldType} {b L : Nat} {xs : Nat → Int32} (C : zz_C p l R s m meth c D U A RL code 9 ret [] 12) (hX : va_X b L xs s s.heap) (hbl : b < s.heap.size) (hbA : ¬ A b) (hcR : cells + 8 ≤ R.cells) (hsR : slots + 48 ≤ R.slots) (i_ : Int32) (σ τ : zz_St) (o : Nat → Int64) (r : zz_LS) (hf : fL_c7 xs L i_ σ τ o = some (some r)) (k : zz_Z p l e R s m args below meth c Q D A 9 (cells + 8) (slots + 48) (zz_wl U ad r.1 r.2.1 r.2.2) 1867 [(0, .ref b), (1, .ref (ad 0)), (2, .ref (ad 47)), (3, .ref (ad 62)), (4, .int i_)] []) : zz_Z p l e R s m args below meth c Q D A 9 cells slots (zz_wl U ad σ τ o) 648 [(0, .ref b), (1, .ref (ad 0)), (2, .ref (ad 47)), (3, .ref (ad 62)), (4, .int i_)] [] := by
  unfold fL_c7 at hf
  refine zz_aload_n C 1 dL_law_648 rfl rfl ?_
  refine zz_aload_n C 0 dL_law_649 rfl rfl ?_
  refine zz_iload C 4 dL_law_650 rfl ?_
  refine zz_iconst (v := (1 : Int32)) C dL_law_652 (by decide) ?_
  refine zz_iadd C dL_law_653 ?_
  obtain ⟨x1, h2, hf⟩ := zz_bind hf
  refine zz_sld C hX hbl hbA dL_law_654 h2 ?_
  refine zz_aload_n C 3 dL_law_655 rfl rfl ?_
  obtain ⟨x3, h4, hf⟩ := zz_bind hf
  refine zz_callSH1 (As := [.ref (ad 0), .int x1, .ref (ad 62)]) (rest := []) C (mL_setSpan σ τ o x1 x3 h4) dL_law_656 rfl zwl_43 zy_L_setSpan rfl (by decide) (by decide) (Nat.le_of_ble_eq_true rfl) (by omega) (by omega) rfl ?_
  refine zz_istore C dL_law_659 (by decide) (lv' := [(5, .int x3.1), (0, .ref b), (1, .ref (ad 0)), (2, .ref (ad 47)), (3, .ref (ad 62)), (4, .int i_)]) rfl ?_
  refine zz_aload_n C 3 dL_law_661 rfl rfl ?_
  refine zz_aload_n C 1 dL_law_662 rfl rfl ?_
  refine zz_iload C 5 dL_law_663 rfl ?_
  refine zz_iconst (v := (1 : Int32)) C dL_law_665 (by decide) ?_
  refine zz_iadd C dL_law_666 ?_
  obtain ⟨x5, h6, hf⟩ := zz_bind hf
  refine zz_sld C hX hbl hbA dL_law_667 h6 ?_
  obtain ⟨x7, h8, hf⟩ := zz_bind hf
  refine zz_ren (ws' := (zz_wm U ad x3.2.1 τ [zz_oc U ad x3.2.2])) rfl ?_
  refine zz_callV1 (As := [.int x5]) (rest := []) C 47 (mX8_setSpan τ x5 x7 h8) dL_law_668 rfl rfl rfl zwl_42 zy_X8_setSpan rfl (by decide) (by decide) (Nat.le_of_ble_eq_true rfl) (by omega) (by omega) rfl ?_
  refine zz_ren (ws' := (zz_wl U ad x3.2.1 x7.2 x3.2.2)) rfl ?_
  refine zz_istore C dL_law_671 (by decide) (lv' := [(6, .int x7.1), (5, .int x3.1), (0, .ref b), (1, .ref (ad 0)), (2, .ref (ad 47)), (3, .ref (ad 62)), (4, .int i_)]) rfl ?_
  refine zz_aload_n C 4 dL_law_673 rfl rfl ?_
  obtain ⟨x9, h10, hf⟩ := zz_bind hf
  refine zz_ren (ws' := (zz_wm U ad x3.2.1 x7.2 [zz_oc U ad x3.2.2])) rfl ?_
  refine zz_callV1 (As := []) (rest := []) C 47 (mX8_thrown x7.2 x9 h10) dL_law_674 rfl rfl rfl zwl_27 zy_X8_thrown rfl (by decide) (by decide) (Nat.le_of_ble_eq_true rfl) (by omega) (by omega) rfl ?_
  refine zz_ren (ws' := (zz_wl U ad x3.2.1 x7.2 x3.2.2)) rfl ?_
  refine zz_iload C 1 dL_law_677 rfl ?_
  refine zz_icmp_eq (tgt := 684) C dL_law_679 (by decide) (fun g11 => ?_) (fun g11 => ?_)
  · rw [if_pos g11] at hf
    obtain ⟨b12, h13, hf⟩ := zz_bind hf
    refine zz_cutI (P := b12 = true) 699 [(6, .int x7.1), (5, .int x3.1), (0, .ref b), (1, .ref (ad 0)), (2, .ref (ad 47)), (3, .ref (ad 62)), (4, .int i_)] [] (zz_wl U ad x3.2.1 x7.2 x3.2.2) (fun g16 => ?_) (fun J14 => ?_)
    · rw [if_pos g16] at hf
      cases hf
    refine zz_cutI (P := b12 = false) 701 [(6, .int x7.1), (5, .int x3.1), (0, .ref b), (1, .ref (ad 0)), (2, .ref (ad 47)), (3, .ref (ad 62)), (4, .int i_)] [] (zz_wl U ad x3.2.1 x7.2 x3.2.2) (fun g16 => ?_) (fun J15 => ?_)
    · rw [if_neg (show ¬ b12 = true by rw [g16]; decide)] at hf
      refine zz_goto (tgt := 1867) C dL_law_701 (by decide) ?_
      refine zz_sub [2, 3, 4, 5, 6] rfl ?_
      cases hf
      refine zz_widen (k := cells + 8) (n := slots + 48) (by omega) (by omega) ?_
      exact k
    refine zz_iload C 1 dL_law_684 rfl ?_
    refine zz_if_ne (tgt := 701) C dL_law_686 (by decide) (fun g17 => ?_) (fun g17 => ?_)
    · rw [if_neg g17] at h13
      cases h13
      exact J15 rfl
    · rw [if_pos g17] at h13
      refine zz_aload_n C 5 dL_law_689 rfl rfl ?_
      refine zz_iconst (v := (0 : Int32)) C dL_law_690 (by decide) ?_
      refine zz_lout C dL_law_691 ?_
      refine zz_iload C 0 dL_law_692 rfl ?_
      refine zz_i2l C dL_law_694 ?_
      obtain ⟨x18, h19, h13⟩ := zz_bind h13
      refine zz_lcmp C dL_law_695 ?_
      refine zz_topi (Option.some.inj h19) ?_
      refine zz_if_eq (tgt := 701) C dL_law_696 (by decide) (fun g20 => ?_) (fun g20 => ?_)
      · rw [if_pos g20] at h13
        cases h13
        exact J15 rfl
      · rw [if_neg g20] at h13
        cases h13
        exact J14 rfl
  · rw [if_neg g11] at hf
    cases hf
set_option maxHeartbeats 4000000 in
set_option maxRecDepth 100000 in
theorem mL_c8 {p : Program} {l : Launch} {e : Env} {R : Room} {s : State} {m : MethodId} {args : Array Value} {below : List Frame} {meth : Method} {c : Code} {Q : State → Prop} {D : va_G} {U : zz_U} {A : Nat → Prop} {cells slots : Nat} {ad : Nat → Nat} {ret : Option FieldType} {b L : Nat} {xs : Nat → Int32} (C : zz_C p l R s m meth c D U A RL code 9 ret [] 12) (hX : va_X b L xs s s.heap) (hbl : b < s.heap.size) (hbA : ¬ A b) (hcR : cells + 8 ≤ R.cells) (hsR : slots + 48 ≤ R.slots) (i_ : Int32) (σ τ : zz_St) (o : Nat → Int64) (r : zz_LS) (hf : fL_c8 xs L i_ σ τ o = some (some r)) (k : zz_Z p l e R s m args below meth c Q D A 9 (cells + 8) (slots + 48) (zz_wl U ad r.1 r.2.1 r.2.2) 1867 [(0, .ref b), (1, .ref (ad 0)), (2, .ref (ad 47)), (3, .ref (ad 62)), (4, .int i_)] []) : zz_Z p l e R s m args below meth c Q D A 9 cells slots (zz_wl U ad σ τ o) 704 [(0, .ref b), (1, .ref (ad 0)), (2, .ref (ad 47)), (3, .ref (ad 62)), (4, .int i_)] [] := by
  unfold fL_c8 at hf
  refine zz_aload_n C 1 dL_law_704 rfl rfl ?_
  refine zz_aload_n C 0 dL_law_705 rfl rfl ?_
  refine zz_iload C 4 dL_law_706 rfl ?_
  refine zz_iconst (v := (1 : Int32)) C dL_law_708 (by decide) ?_
  refine zz_iadd C dL_law_709 ?_
  obtain ⟨x1, h2, hf⟩ := zz_bind hf
  refine zz_sld C hX hbl hbA dL_law_710 h2 ?_
  refine zz_aload_n C 0 dL_law_711 rfl rfl ?_
  refine zz_iload C 4 dL_law_712 rfl ?_
  refine zz_iconst (v := (2 : Int32)) C dL_law_714 (by decide) ?_
  refine zz_iadd C dL_law_715 ?_
  obtain ⟨x3, h4, hf⟩ := zz_bind hf
  refine zz_sld C hX hbl hbA dL_law_716 h4 ?_
  refine zz_aload_n C 0 dL_law_717 rfl rfl ?_
  refine zz_iload C 4 dL_law_718 rfl ?_
  refine zz_iconst (v := (3 : Int32)) C dL_law_720 (by decide) ?_
  refine zz_iadd C dL_law_721 ?_
  obtain ⟨x5, h6, hf⟩ := zz_bind hf
  refine zz_sld C hX hbl hbA dL_law_722 h6 ?_
  refine zz_aload_n C 3 dL_law_723 rfl rfl ?_
  obtain ⟨x7, h8, hf⟩ := zz_bind hf
  refine zz_callSH1 (As := [.ref (ad 0), .int x1, .int x3, .int x5, .ref (ad 62)]) (rest := []) C (mL_points σ τ o x1 x3 x5 x7 h8) dL_law_724 rfl zwl_45 zy_L_points rfl (by decide) (by decide) (Nat.le_of_ble_eq_true rfl) (by omega) (by omega) rfl ?_
  refine zz_istore C dL_law_727 (by decide) (lv' := [(5, .int x7.1), (0, .ref b), (1, .ref (ad 0)), (2, .ref (ad 47)), (3, .ref (ad 62)), (4, .int i_)]) rfl ?_
  refine zz_aload_n C 3 dL_law_729 rfl rfl ?_
  refine zz_aload_n C 1 dL_law_730 rfl rfl ?_
  refine zz_iload C 5 dL_law_731 rfl ?_
  refine zz_iconst (v := (1 : Int32)) C dL_law_733 (by decide) ?_
  refine zz_iadd C dL_law_734 ?_
  obtain ⟨x9, h10, hf⟩ := zz_bind hf
  refine zz_sld C hX hbl hbA dL_law_735 h10 ?_
  refine zz_aload_n C 1 dL_law_736 rfl rfl ?_
  refine zz_iload C 5 dL_law_737 rfl ?_
  refine zz_iconst (v := (2 : Int32)) C dL_law_739 (by decide) ?_
  refine zz_iadd C dL_law_740 ?_
  obtain ⟨x11, h12, hf⟩ := zz_bind hf
  refine zz_sld C hX hbl hbA dL_law_741 h12 ?_
  refine zz_aload_n C 1 dL_law_742 rfl rfl ?_
  refine zz_iload C 5 dL_law_743 rfl ?_
  refine zz_iconst (v := (3 : Int32)) C dL_law_745 (by decide) ?_
  refine zz_iadd C dL_law_746 ?_
  obtain ⟨x13, h14, hf⟩ := zz_bind hf
  refine zz_sld C hX hbl hbA dL_law_747 h14 ?_
  obtain ⟨x15, h16, hf⟩ := zz_bind hf
  refine zz_ren (ws' := (zz_wm U ad x7.2.1 τ [zz_oc U ad x7.2.2])) rfl ?_
  refine zz_callV1 (As := [.int x9, .int x11, .int x13]) (rest := []) C 47 (mX8_points τ x9 x11 x13 x15 h16) dL_law_748 rfl rfl rfl zwl_44 zy_X8_points rfl (by decide) (by decide) (Nat.le_of_ble_eq_true rfl) (by omega) (by omega) rfl ?_
  refine zz_ren (ws' := (zz_wl U ad x7.2.1 x15.2 x7.2.2)) rfl ?_
  refine zz_istore C dL_law_751 (by decide) (lv' := [(6, .int x15.1), (5, .int x7.1), (0, .ref b), (1, .ref (ad 0)), (2, .ref (ad 47)), (3, .ref (ad 62)), (4, .int i_)]) rfl ?_
  refine zz_aload_n C 4 dL_law_753 rfl rfl ?_
  obtain ⟨x17, h18, hf⟩ := zz_bind hf
  refine zz_ren (ws' := (zz_wm U ad x7.2.1 x15.2 [zz_oc U ad x7.2.2])) rfl ?_
  refine zz_callV1 (As := []) (rest := []) C 47 (mX8_thrown x15.2 x17 h18) dL_law_754 rfl rfl rfl zwl_27 zy_X8_thrown rfl (by decide) (by decide) (Nat.le_of_ble_eq_true rfl) (by omega) (by omega) rfl ?_
  refine zz_ren (ws' := (zz_wl U ad x7.2.1 x15.2 x7.2.2)) rfl ?_
  refine zz_iload C 1 dL_law_757 rfl ?_
  refine zz_icmp_eq (tgt := 764) C dL_law_759 (by decide) (fun g19 => ?_) (fun g19 => ?_)
  · rw [if_pos g19] at hf
    obtain ⟨b20, h21, hf⟩ := zz_bind hf
    refine zz_cutI (P := b20 = true) 779 [(6, .int x15.1), (5, .int x7.1), (0, .ref b), (1, .ref (ad 0)), (2, .ref (ad 47)), (3, .ref (ad 62)), (4, .int i_)] [] (zz_wl U ad x7.2.1 x15.2 x7.2.2) (fun g24 => ?_) (fun J22 => ?_)
    · rw [if_pos g24] at hf
      cases hf
    refine zz_cutI (P := b20 = false) 781 [(6, .int x15.1), (5, .int x7.1), (0, .ref b), (1, .ref (ad 0)), (2, .ref (ad 47)), (3, .ref (ad 62)), (4, .int i_)] [] (zz_wl U ad x7.2.1 x15.2 x7.2.2) (fun g24 => ?_) (fun J23 => ?_)
    · rw [if_neg (show ¬ b20 = true by rw [g24]; decide)] at hf
      refine zz_goto (tgt := 1867) C dL_law_781 (by decide) ?_
      refine zz_sub [2, 3, 4, 5, 6] rfl ?_
      cases hf
      refine zz_widen (k := cells + 8) (n := slots + 48) (by omega) (by omega) ?_
      exact k
    refine zz_iload C 1 dL_law_764 rfl ?_
    refine zz_if_ne (tgt := 781) C dL_law_766 (by decide) (fun g25 => ?_) (fun g25 => ?_)
    · rw [if_neg g25] at h21
      cases h21
      exact J23 rfl
    · rw [if_pos g25] at h21
      refine zz_aload_n C 5 dL_law_769 rfl rfl ?_
      refine zz_iconst (v := (0 : Int32)) C dL_law_770 (by decide) ?_
      refine zz_lout C dL_law_771 ?_
      refine zz_iload C 0 dL_law_772 rfl ?_
      refine zz_i2l C dL_law_774 ?_
      obtain ⟨x26, h27, h21⟩ := zz_bind h21
      refine zz_lcmp C dL_law_775 ?_
      refine zz_topi (Option.some.inj h27) ?_
      refine zz_if_eq (tgt := 781) C dL_law_776 (by decide) (fun g28 => ?_) (fun g28 => ?_)
      · rw [if_pos g28] at h21
        cases h21
        exact J23 rfl
      · rw [if_neg g28] at h21
        cases h21
        exact J22 rfl
  · rw [if_neg g19] at hf
    cases hf
set_option maxHeartbeats 4000000 in
set_option maxRecDepth 100000 in
theorem mL_c9 {p : Program} {l : Launch} {e : Env} {R : Room} {s : State} {m : MethodId} {args : Array Value} {below : List Frame} {meth : Method} {c : Code} {Q : State → Prop} {D : va_G} {U : zz_U} {A : Nat → Prop} {cells slots : Nat} {ad : Nat → Nat} {ret : Option FieldType} {b L : Nat} {xs : Nat → Int32} (C : zz_C p l R s m meth c D U A RL code 9 ret [] 12) (hX : va_X b L xs s s.heap) (hbl : b < s.heap.size) (hbA : ¬ A b) (hcR : cells + 8 ≤ R.cells) (hsR : slots + 48 ≤ R.slots) (i_ : Int32) (σ τ : zz_St) (o : Nat → Int64) (r : zz_LS) (hf : fL_c9 xs L i_ σ τ o = some (some r)) (k : zz_Z p l e R s m args below meth c Q D A 9 (cells + 8) (slots + 48) (zz_wl U ad r.1 r.2.1 r.2.2) 1867 [(0, .ref b), (1, .ref (ad 0)), (2, .ref (ad 47)), (3, .ref (ad 62)), (4, .int i_)] []) : zz_Z p l e R s m args below meth c Q D A 9 cells slots (zz_wl U ad σ τ o) 784 [(0, .ref b), (1, .ref (ad 0)), (2, .ref (ad 47)), (3, .ref (ad 62)), (4, .int i_)] [] := by
  unfold fL_c9 at hf
  refine zz_aload_n C 1 dL_law_784 rfl rfl ?_
  refine zz_aload_n C 0 dL_law_785 rfl rfl ?_
  refine zz_iload C 4 dL_law_786 rfl ?_
  refine zz_iconst (v := (1 : Int32)) C dL_law_788 (by decide) ?_
  refine zz_iadd C dL_law_789 ?_
  obtain ⟨x1, h2, hf⟩ := zz_bind hf
  refine zz_sld C hX hbl hbA dL_law_790 h2 ?_
  refine zz_aload_n C 0 dL_law_791 rfl rfl ?_
  refine zz_iload C 4 dL_law_792 rfl ?_
  refine zz_iconst (v := (2 : Int32)) C dL_law_794 (by decide) ?_
  refine zz_iadd C dL_law_795 ?_
  obtain ⟨x3, h4, hf⟩ := zz_bind hf
  refine zz_sld C hX hbl hbA dL_law_796 h4 ?_
  refine zz_aload_n C 3 dL_law_797 rfl rfl ?_
  obtain ⟨x5, h6, hf⟩ := zz_bind hf
  refine zz_callSH1 (As := [.ref (ad 0), .int x1, .int x3, .ref (ad 62)]) (rest := []) C (mL_affinity σ τ o x1 x3 x5 h6) dL_law_798 rfl zwl_47 zy_L_affinity rfl (by decide) (by decide) (Nat.le_of_ble_eq_true rfl) (by omega) (by omega) rfl ?_
  refine zz_istore C dL_law_801 (by decide) (lv' := [(5, .int x5.1), (0, .ref b), (1, .ref (ad 0)), (2, .ref (ad 47)), (3, .ref (ad 62)), (4, .int i_)]) rfl ?_
  refine zz_aload_n C 3 dL_law_803 rfl rfl ?_
  refine zz_aload_n C 1 dL_law_804 rfl rfl ?_
  refine zz_iload C 5 dL_law_805 rfl ?_
  refine zz_iconst (v := (1 : Int32)) C dL_law_807 (by decide) ?_
  refine zz_iadd C dL_law_808 ?_
  obtain ⟨x7, h8, hf⟩ := zz_bind hf
  refine zz_sld C hX hbl hbA dL_law_809 h8 ?_
  refine zz_aload_n C 1 dL_law_810 rfl rfl ?_
  refine zz_iload C 5 dL_law_811 rfl ?_
  refine zz_iconst (v := (2 : Int32)) C dL_law_813 (by decide) ?_
  refine zz_iadd C dL_law_814 ?_
  obtain ⟨x9, h10, hf⟩ := zz_bind hf
  refine zz_sld C hX hbl hbA dL_law_815 h10 ?_
  obtain ⟨x11, h12, hf⟩ := zz_bind hf
  refine zz_ren (ws' := (zz_wm U ad x5.2.1 τ [zz_oc U ad x5.2.2])) rfl ?_
  refine zz_callV1 (As := [.int x7, .int x9]) (rest := []) C 47 (mX8_affinity τ x7 x9 x11 h12) dL_law_816 rfl rfl rfl zwl_46 zy_X8_affinity rfl (by decide) (by decide) (Nat.le_of_ble_eq_true rfl) (by omega) (by omega) rfl ?_
  refine zz_ren (ws' := (zz_wl U ad x5.2.1 x11.2 x5.2.2)) rfl ?_
  refine zz_istore C dL_law_819 (by decide) (lv' := [(6, .int x11.1), (5, .int x5.1), (0, .ref b), (1, .ref (ad 0)), (2, .ref (ad 47)), (3, .ref (ad 62)), (4, .int i_)]) rfl ?_
  refine zz_aload_n C 4 dL_law_821 rfl rfl ?_
  obtain ⟨x13, h14, hf⟩ := zz_bind hf
  refine zz_ren (ws' := (zz_wm U ad x5.2.1 x11.2 [zz_oc U ad x5.2.2])) rfl ?_
  refine zz_callV1 (As := []) (rest := []) C 47 (mX8_thrown x11.2 x13 h14) dL_law_822 rfl rfl rfl zwl_27 zy_X8_thrown rfl (by decide) (by decide) (Nat.le_of_ble_eq_true rfl) (by omega) (by omega) rfl ?_
  refine zz_ren (ws' := (zz_wl U ad x5.2.1 x11.2 x5.2.2)) rfl ?_
  refine zz_iload C 1 dL_law_825 rfl ?_
  refine zz_icmp_eq (tgt := 832) C dL_law_827 (by decide) (fun g15 => ?_) (fun g15 => ?_)
  · rw [if_pos g15] at hf
    obtain ⟨b16, h17, hf⟩ := zz_bind hf
    refine zz_cutI (P := b16 = true) 847 [(6, .int x11.1), (5, .int x5.1), (0, .ref b), (1, .ref (ad 0)), (2, .ref (ad 47)), (3, .ref (ad 62)), (4, .int i_)] [] (zz_wl U ad x5.2.1 x11.2 x5.2.2) (fun g20 => ?_) (fun J18 => ?_)
    · rw [if_pos g20] at hf
      cases hf
    refine zz_cutI (P := b16 = false) 849 [(6, .int x11.1), (5, .int x5.1), (0, .ref b), (1, .ref (ad 0)), (2, .ref (ad 47)), (3, .ref (ad 62)), (4, .int i_)] [] (zz_wl U ad x5.2.1 x11.2 x5.2.2) (fun g20 => ?_) (fun J19 => ?_)
    · rw [if_neg (show ¬ b16 = true by rw [g20]; decide)] at hf
      refine zz_goto (tgt := 1867) C dL_law_849 (by decide) ?_
      refine zz_sub [2, 3, 4, 5, 6] rfl ?_
      cases hf
      refine zz_widen (k := cells + 8) (n := slots + 48) (by omega) (by omega) ?_
      exact k
    refine zz_iload C 1 dL_law_832 rfl ?_
    refine zz_if_ne (tgt := 849) C dL_law_834 (by decide) (fun g21 => ?_) (fun g21 => ?_)
    · rw [if_neg g21] at h17
      cases h17
      exact J19 rfl
    · rw [if_pos g21] at h17
      refine zz_aload_n C 5 dL_law_837 rfl rfl ?_
      refine zz_iconst (v := (0 : Int32)) C dL_law_838 (by decide) ?_
      refine zz_lout C dL_law_839 ?_
      refine zz_iload C 0 dL_law_840 rfl ?_
      refine zz_i2l C dL_law_842 ?_
      obtain ⟨x22, h23, h17⟩ := zz_bind h17
      refine zz_lcmp C dL_law_843 ?_
      refine zz_topi (Option.some.inj h23) ?_
      refine zz_if_eq (tgt := 849) C dL_law_844 (by decide) (fun g24 => ?_) (fun g24 => ?_)
      · rw [if_pos g24] at h17
        cases h17
        exact J19 rfl
      · rw [if_neg g24] at h17
        cases h17
        exact J18 rfl
  · rw [if_neg g15] at hf
    cases hf
set_option maxHeartbeats 4000000 in
set_option maxRecDepth 100000 in
theorem mL_c10 {p : Program} {l : Launch} {e : Env} {R : Room} {s : State} {m : MethodId} {args : Array Value} {below : List Frame} {meth : Method} {c : Code} {Q : State → Prop} {D : va_G} {U : zz_U} {A : Nat → Prop} {cells slots : Nat} {ad : Nat → Nat} {ret : Option FieldType} {b L : Nat} {xs : Nat → Int32} (C : zz_C p l R s m meth c D U A RL code 9 ret [] 12) (hX : va_X b L xs s s.heap) (hbl : b < s.heap.size) (hbA : ¬ A b) (hcR : cells + 8 ≤ R.cells) (hsR : slots + 48 ≤ R.slots) (i_ : Int32) (σ τ : zz_St) (o : Nat → Int64) (r : zz_LS) (hf : fL_c10 xs L i_ σ τ o = some (some r)) (k : zz_Z p l e R s m args below meth c Q D A 9 (cells + 8) (slots + 48) (zz_wl U ad r.1 r.2.1 r.2.2) 1867 [(0, .ref b), (1, .ref (ad 0)), (2, .ref (ad 47)), (3, .ref (ad 62)), (4, .int i_)] []) : zz_Z p l e R s m args below meth c Q D A 9 cells slots (zz_wl U ad σ τ o) 852 [(0, .ref b), (1, .ref (ad 0)), (2, .ref (ad 47)), (3, .ref (ad 62)), (4, .int i_)] [] := by
  unfold fL_c10 at hf
  refine zz_aload_n C 1 dL_law_852 rfl rfl ?_
  refine zz_aload_n C 0 dL_law_853 rfl rfl ?_
  refine zz_iload C 4 dL_law_854 rfl ?_
  refine zz_iconst (v := (1 : Int32)) C dL_law_856 (by decide) ?_
  refine zz_iadd C dL_law_857 ?_
  obtain ⟨x1, h2, hf⟩ := zz_bind hf
  refine zz_sld C hX hbl hbA dL_law_858 h2 ?_
  refine zz_aload_n C 3 dL_law_859 rfl rfl ?_
  obtain ⟨x3, h4, hf⟩ := zz_bind hf
  refine zz_callSH1 (As := [.ref (ad 0), .int x1, .ref (ad 62)]) (rest := []) C (mL_closest σ τ o x1 x3 h4) dL_law_860 rfl zwl_49 zy_L_closest rfl (by decide) (by decide) (Nat.le_of_ble_eq_true rfl) (by omega) (by omega) rfl ?_
  refine zz_istore C dL_law_863 (by decide) (lv' := [(5, .int x3.1), (0, .ref b), (1, .ref (ad 0)), (2, .ref (ad 47)), (3, .ref (ad 62)), (4, .int i_)]) rfl ?_
  refine zz_aload_n C 3 dL_law_865 rfl rfl ?_
  refine zz_aload_n C 1 dL_law_866 rfl rfl ?_
  refine zz_iload C 5 dL_law_867 rfl ?_
  refine zz_iconst (v := (1 : Int32)) C dL_law_869 (by decide) ?_
  refine zz_iadd C dL_law_870 ?_
  obtain ⟨x5, h6, hf⟩ := zz_bind hf
  refine zz_sld C hX hbl hbA dL_law_871 h6 ?_
  obtain ⟨x7, h8, hf⟩ := zz_bind hf
  refine zz_ren (ws' := (zz_wm U ad x3.2.1 τ [zz_oc U ad x3.2.2])) rfl ?_
  refine zz_callV1 (As := [.int x5]) (rest := []) C 47 (mX8_closest τ x5 x7 h8) dL_law_872 rfl rfl rfl zwl_48 zy_X8_closest rfl (by decide) (by decide) (Nat.le_of_ble_eq_true rfl) (by omega) (by omega) rfl ?_
  refine zz_ren (ws' := (zz_wl U ad x3.2.1 x7.2 x3.2.2)) rfl ?_
  refine zz_istore C dL_law_875 (by decide) (lv' := [(6, .int x7.1), (5, .int x3.1), (0, .ref b), (1, .ref (ad 0)), (2, .ref (ad 47)), (3, .ref (ad 62)), (4, .int i_)]) rfl ?_
  refine zz_aload_n C 4 dL_law_877 rfl rfl ?_
  obtain ⟨x9, h10, hf⟩ := zz_bind hf
  refine zz_ren (ws' := (zz_wm U ad x3.2.1 x7.2 [zz_oc U ad x3.2.2])) rfl ?_
  refine zz_callV1 (As := []) (rest := []) C 47 (mX8_thrown x7.2 x9 h10) dL_law_878 rfl rfl rfl zwl_27 zy_X8_thrown rfl (by decide) (by decide) (Nat.le_of_ble_eq_true rfl) (by omega) (by omega) rfl ?_
  refine zz_ren (ws' := (zz_wl U ad x3.2.1 x7.2 x3.2.2)) rfl ?_
  refine zz_iload C 1 dL_law_881 rfl ?_
  refine zz_icmp_eq (tgt := 888) C dL_law_883 (by decide) (fun g11 => ?_) (fun g11 => ?_)
  · rw [if_pos g11] at hf
    obtain ⟨b12, h13, hf⟩ := zz_bind hf
    refine zz_cutI (P := b12 = true) 903 [(6, .int x7.1), (5, .int x3.1), (0, .ref b), (1, .ref (ad 0)), (2, .ref (ad 47)), (3, .ref (ad 62)), (4, .int i_)] [] (zz_wl U ad x3.2.1 x7.2 x3.2.2) (fun g16 => ?_) (fun J14 => ?_)
    · rw [if_pos g16] at hf
      cases hf
    refine zz_cutI (P := b12 = false) 905 [(6, .int x7.1), (5, .int x3.1), (0, .ref b), (1, .ref (ad 0)), (2, .ref (ad 47)), (3, .ref (ad 62)), (4, .int i_)] [] (zz_wl U ad x3.2.1 x7.2 x3.2.2) (fun g16 => ?_) (fun J15 => ?_)
    · rw [if_neg (show ¬ b12 = true by rw [g16]; decide)] at hf
      refine zz_goto (tgt := 1867) C dL_law_905 (by decide) ?_
      refine zz_sub [2, 3, 4, 5, 6] rfl ?_
      cases hf
      refine zz_widen (k := cells + 8) (n := slots + 48) (by omega) (by omega) ?_
      exact k
    refine zz_iload C 1 dL_law_888 rfl ?_
    refine zz_if_ne (tgt := 905) C dL_law_890 (by decide) (fun g17 => ?_) (fun g17 => ?_)
    · rw [if_neg g17] at h13
      cases h13
      exact J15 rfl
    · rw [if_pos g17] at h13
      refine zz_aload_n C 5 dL_law_893 rfl rfl ?_
      refine zz_iconst (v := (0 : Int32)) C dL_law_894 (by decide) ?_
      refine zz_lout C dL_law_895 ?_
      refine zz_iload C 0 dL_law_896 rfl ?_
      refine zz_i2l C dL_law_898 ?_
      obtain ⟨x18, h19, h13⟩ := zz_bind h13
      refine zz_lcmp C dL_law_899 ?_
      refine zz_topi (Option.some.inj h19) ?_
      refine zz_if_eq (tgt := 905) C dL_law_900 (by decide) (fun g20 => ?_) (fun g20 => ?_)
      · rw [if_pos g20] at h13
        cases h13
        exact J15 rfl
      · rw [if_neg g20] at h13
        cases h13
        exact J14 rfl
  · rw [if_neg g11] at hf
    cases hf
set_option maxHeartbeats 4000000 in
set_option maxRecDepth 100000 in
theorem mL_c11 {p : Program} {l : Launch} {e : Env} {R : Room} {s : State} {m : MethodId} {args : Array Value} {below : List Frame} {meth : Method} {c : Code} {Q : State → Prop} {D : va_G} {U : zz_U} {A : Nat → Prop} {cells slots : Nat} {ad : Nat → Nat} {ret : Option FieldType} {b L : Nat} {xs : Nat → Int32} (C : zz_C p l R s m meth c D U A RL code 9 ret [] 12) (hX : va_X b L xs s s.heap) (hbl : b < s.heap.size) (hbA : ¬ A b) (hcR : cells + 8 ≤ R.cells) (hsR : slots + 48 ≤ R.slots) (i_ : Int32) (σ τ : zz_St) (o : Nat → Int64) (r : zz_LS) (hf : fL_c11 xs L i_ σ τ o = some (some r)) (k : zz_Z p l e R s m args below meth c Q D A 9 (cells + 8) (slots + 48) (zz_wl U ad r.1 r.2.1 r.2.2) 1867 [(0, .ref b), (1, .ref (ad 0)), (2, .ref (ad 47)), (3, .ref (ad 62)), (4, .int i_)] []) : zz_Z p l e R s m args below meth c Q D A 9 cells slots (zz_wl U ad σ τ o) 908 [(0, .ref b), (1, .ref (ad 0)), (2, .ref (ad 47)), (3, .ref (ad 62)), (4, .int i_)] [] := by
  unfold fL_c11 at hf
  refine zz_aload_n C 1 dL_law_908 rfl rfl ?_
  refine zz_aload_n C 0 dL_law_909 rfl rfl ?_
  refine zz_iload C 4 dL_law_910 rfl ?_
  refine zz_iconst (v := (1 : Int32)) C dL_law_912 (by decide) ?_
  refine zz_iadd C dL_law_913 ?_
  obtain ⟨x1, h2, hf⟩ := zz_bind hf
  refine zz_sld C hX hbl hbA dL_law_914 h2 ?_
  refine zz_aload_n C 3 dL_law_915 rfl rfl ?_
  obtain ⟨x3, h4, hf⟩ := zz_bind hf
  refine zz_callSH1 (As := [.ref (ad 0), .int x1, .ref (ad 62)]) (rest := []) C (mL_setThreshold σ τ o x1 x3 h4) dL_law_916 rfl zwl_51 zy_L_setThreshold rfl (by decide) (by decide) (Nat.le_of_ble_eq_true rfl) (by omega) (by omega) rfl ?_
  refine zz_istore C dL_law_919 (by decide) (lv' := [(5, .int x3.1), (0, .ref b), (1, .ref (ad 0)), (2, .ref (ad 47)), (3, .ref (ad 62)), (4, .int i_)]) rfl ?_
  refine zz_aload_n C 3 dL_law_921 rfl rfl ?_
  refine zz_aload_n C 1 dL_law_922 rfl rfl ?_
  refine zz_iload C 5 dL_law_923 rfl ?_
  refine zz_iconst (v := (1 : Int32)) C dL_law_925 (by decide) ?_
  refine zz_iadd C dL_law_926 ?_
  obtain ⟨x5, h6, hf⟩ := zz_bind hf
  refine zz_sld C hX hbl hbA dL_law_927 h6 ?_
  obtain ⟨x7, h8, hf⟩ := zz_bind hf
  refine zz_ren (ws' := (zz_wm U ad x3.2.1 τ [zz_oc U ad x3.2.2])) rfl ?_
  refine zz_callV1 (As := [.int x5]) (rest := []) C 47 (mX8_setThreshold τ x5 x7 h8) dL_law_928 rfl rfl rfl zwl_50 zy_X8_setThreshold rfl (by decide) (by decide) (Nat.le_of_ble_eq_true rfl) (by omega) (by omega) rfl ?_
  refine zz_ren (ws' := (zz_wl U ad x3.2.1 x7.2 x3.2.2)) rfl ?_
  refine zz_istore C dL_law_931 (by decide) (lv' := [(6, .int x7.1), (5, .int x3.1), (0, .ref b), (1, .ref (ad 0)), (2, .ref (ad 47)), (3, .ref (ad 62)), (4, .int i_)]) rfl ?_
  refine zz_aload_n C 4 dL_law_933 rfl rfl ?_
  obtain ⟨x9, h10, hf⟩ := zz_bind hf
  refine zz_ren (ws' := (zz_wm U ad x3.2.1 x7.2 [zz_oc U ad x3.2.2])) rfl ?_
  refine zz_callV1 (As := []) (rest := []) C 47 (mX8_thrown x7.2 x9 h10) dL_law_934 rfl rfl rfl zwl_27 zy_X8_thrown rfl (by decide) (by decide) (Nat.le_of_ble_eq_true rfl) (by omega) (by omega) rfl ?_
  refine zz_ren (ws' := (zz_wl U ad x3.2.1 x7.2 x3.2.2)) rfl ?_
  refine zz_iload C 1 dL_law_937 rfl ?_
  refine zz_icmp_eq (tgt := 944) C dL_law_939 (by decide) (fun g11 => ?_) (fun g11 => ?_)
  · rw [if_pos g11] at hf
    obtain ⟨b12, h13, hf⟩ := zz_bind hf
    refine zz_cutI (P := b12 = true) 959 [(6, .int x7.1), (5, .int x3.1), (0, .ref b), (1, .ref (ad 0)), (2, .ref (ad 47)), (3, .ref (ad 62)), (4, .int i_)] [] (zz_wl U ad x3.2.1 x7.2 x3.2.2) (fun g16 => ?_) (fun J14 => ?_)
    · rw [if_pos g16] at hf
      cases hf
    refine zz_cutI (P := b12 = false) 961 [(6, .int x7.1), (5, .int x3.1), (0, .ref b), (1, .ref (ad 0)), (2, .ref (ad 47)), (3, .ref (ad 62)), (4, .int i_)] [] (zz_wl U ad x3.2.1 x7.2 x3.2.2) (fun g16 => ?_) (fun J15 => ?_)
    · rw [if_neg (show ¬ b12 = true by rw [g16]; decide)] at hf
      refine zz_goto (tgt := 1867) C dL_law_961 (by decide) ?_
      refine zz_sub [2, 3, 4, 5, 6] rfl ?_
      cases hf
      refine zz_widen (k := cells + 8) (n := slots + 48) (by omega) (by omega) ?_
      exact k
    refine zz_iload C 1 dL_law_944 rfl ?_
    refine zz_if_ne (tgt := 961) C dL_law_946 (by decide) (fun g17 => ?_) (fun g17 => ?_)
    · rw [if_neg g17] at h13
      cases h13
      exact J15 rfl
    · rw [if_pos g17] at h13
      refine zz_aload_n C 5 dL_law_949 rfl rfl ?_
      refine zz_iconst (v := (0 : Int32)) C dL_law_950 (by decide) ?_
      refine zz_lout C dL_law_951 ?_
      refine zz_iload C 0 dL_law_952 rfl ?_
      refine zz_i2l C dL_law_954 ?_
      obtain ⟨x18, h19, h13⟩ := zz_bind h13
      refine zz_lcmp C dL_law_955 ?_
      refine zz_topi (Option.some.inj h19) ?_
      refine zz_if_eq (tgt := 961) C dL_law_956 (by decide) (fun g20 => ?_) (fun g20 => ?_)
      · rw [if_pos g20] at h13
        cases h13
        exact J15 rfl
      · rw [if_neg g20] at h13
        cases h13
        exact J14 rfl
  · rw [if_neg g11] at hf
    cases hf
set_option maxHeartbeats 4000000 in
set_option maxRecDepth 100000 in
theorem mL_c12 {p : Program} {l : Launch} {e : Env} {R : Room} {s : State} {m : MethodId} {args : Array Value} {below : List Frame} {meth : Method} {c : Code} {Q : State → Prop} {D : va_G} {U : zz_U} {A : Nat → Prop} {cells slots : Nat} {ad : Nat → Nat} {ret : Option FieldType} {b L : Nat} {xs : Nat → Int32} (C : zz_C p l R s m meth c D U A RL code 9 ret [] 12) (hX : va_X b L xs s s.heap) (hbl : b < s.heap.size) (hbA : ¬ A b) (hcR : cells + 8 ≤ R.cells) (hsR : slots + 48 ≤ R.slots) (i_ : Int32) (σ τ : zz_St) (o : Nat → Int64) (r : zz_LS) (hf : fL_c12 xs L i_ σ τ o = some (some r)) (k : zz_Z p l e R s m args below meth c Q D A 9 (cells + 8) (slots + 48) (zz_wl U ad r.1 r.2.1 r.2.2) 1867 [(0, .ref b), (1, .ref (ad 0)), (2, .ref (ad 47)), (3, .ref (ad 62)), (4, .int i_)] []) : zz_Z p l e R s m args below meth c Q D A 9 cells slots (zz_wl U ad σ τ o) 964 [(0, .ref b), (1, .ref (ad 0)), (2, .ref (ad 47)), (3, .ref (ad 62)), (4, .int i_)] [] := by
  unfold fL_c12 at hf
  refine zz_aload_n C 1 dL_law_964 rfl rfl ?_
  refine zz_aload_n C 0 dL_law_965 rfl rfl ?_
  refine zz_iload C 4 dL_law_966 rfl ?_
  refine zz_iconst (v := (1 : Int32)) C dL_law_968 (by decide) ?_
  refine zz_iadd C dL_law_969 ?_
  obtain ⟨x1, h2, hf⟩ := zz_bind hf
  refine zz_sld C hX hbl hbA dL_law_970 h2 ?_
  refine zz_aload_n C 3 dL_law_971 rfl rfl ?_
  obtain ⟨x3, h4, hf⟩ := zz_bind hf
  refine zz_callSH1 (As := [.ref (ad 0), .int x1, .ref (ad 62)]) (rest := []) C (mL_setManner σ τ o x1 x3 h4) dL_law_972 rfl zwl_53 zy_L_setManner rfl (by decide) (by decide) (Nat.le_of_ble_eq_true rfl) (by omega) (by omega) rfl ?_
  refine zz_istore C dL_law_975 (by decide) (lv' := [(5, .int x3.1), (0, .ref b), (1, .ref (ad 0)), (2, .ref (ad 47)), (3, .ref (ad 62)), (4, .int i_)]) rfl ?_
  refine zz_aload_n C 3 dL_law_977 rfl rfl ?_
  refine zz_aload_n C 1 dL_law_978 rfl rfl ?_
  refine zz_iload C 5 dL_law_979 rfl ?_
  refine zz_iconst (v := (1 : Int32)) C dL_law_981 (by decide) ?_
  refine zz_iadd C dL_law_982 ?_
  obtain ⟨x5, h6, hf⟩ := zz_bind hf
  refine zz_sld C hX hbl hbA dL_law_983 h6 ?_
  obtain ⟨x7, h8, hf⟩ := zz_bind hf
  refine zz_ren (ws' := (zz_wm U ad x3.2.1 τ [zz_oc U ad x3.2.2])) rfl ?_
  refine zz_callV1 (As := [.int x5]) (rest := []) C 47 (mX8_setManner τ x5 x7 h8) dL_law_984 rfl rfl rfl zwl_52 zy_X8_setManner rfl (by decide) (by decide) (Nat.le_of_ble_eq_true rfl) (by omega) (by omega) rfl ?_
  refine zz_ren (ws' := (zz_wl U ad x3.2.1 x7.2 x3.2.2)) rfl ?_
  refine zz_istore C dL_law_987 (by decide) (lv' := [(6, .int x7.1), (5, .int x3.1), (0, .ref b), (1, .ref (ad 0)), (2, .ref (ad 47)), (3, .ref (ad 62)), (4, .int i_)]) rfl ?_
  refine zz_aload_n C 4 dL_law_989 rfl rfl ?_
  obtain ⟨x9, h10, hf⟩ := zz_bind hf
  refine zz_ren (ws' := (zz_wm U ad x3.2.1 x7.2 [zz_oc U ad x3.2.2])) rfl ?_
  refine zz_callV1 (As := []) (rest := []) C 47 (mX8_thrown x7.2 x9 h10) dL_law_990 rfl rfl rfl zwl_27 zy_X8_thrown rfl (by decide) (by decide) (Nat.le_of_ble_eq_true rfl) (by omega) (by omega) rfl ?_
  refine zz_ren (ws' := (zz_wl U ad x3.2.1 x7.2 x3.2.2)) rfl ?_
  refine zz_iload C 1 dL_law_993 rfl ?_
  refine zz_icmp_eq (tgt := 1000) C dL_law_995 (by decide) (fun g11 => ?_) (fun g11 => ?_)
  · rw [if_pos g11] at hf
    obtain ⟨b12, h13, hf⟩ := zz_bind hf
    refine zz_cutI (P := b12 = true) 1015 [(6, .int x7.1), (5, .int x3.1), (0, .ref b), (1, .ref (ad 0)), (2, .ref (ad 47)), (3, .ref (ad 62)), (4, .int i_)] [] (zz_wl U ad x3.2.1 x7.2 x3.2.2) (fun g16 => ?_) (fun J14 => ?_)
    · rw [if_pos g16] at hf
      cases hf
    refine zz_cutI (P := b12 = false) 1017 [(6, .int x7.1), (5, .int x3.1), (0, .ref b), (1, .ref (ad 0)), (2, .ref (ad 47)), (3, .ref (ad 62)), (4, .int i_)] [] (zz_wl U ad x3.2.1 x7.2 x3.2.2) (fun g16 => ?_) (fun J15 => ?_)
    · rw [if_neg (show ¬ b12 = true by rw [g16]; decide)] at hf
      refine zz_goto (tgt := 1867) C dL_law_1017 (by decide) ?_
      refine zz_sub [2, 3, 4, 5, 6] rfl ?_
      cases hf
      refine zz_widen (k := cells + 8) (n := slots + 48) (by omega) (by omega) ?_
      exact k
    refine zz_iload C 1 dL_law_1000 rfl ?_
    refine zz_if_ne (tgt := 1017) C dL_law_1002 (by decide) (fun g17 => ?_) (fun g17 => ?_)
    · rw [if_neg g17] at h13
      cases h13
      exact J15 rfl
    · rw [if_pos g17] at h13
      refine zz_aload_n C 5 dL_law_1005 rfl rfl ?_
      refine zz_iconst (v := (0 : Int32)) C dL_law_1006 (by decide) ?_
      refine zz_lout C dL_law_1007 ?_
      refine zz_iload C 0 dL_law_1008 rfl ?_
      refine zz_i2l C dL_law_1010 ?_
      obtain ⟨x18, h19, h13⟩ := zz_bind h13
      refine zz_lcmp C dL_law_1011 ?_
      refine zz_topi (Option.some.inj h19) ?_
      refine zz_if_eq (tgt := 1017) C dL_law_1012 (by decide) (fun g20 => ?_) (fun g20 => ?_)
      · rw [if_pos g20] at h13
        cases h13
        exact J15 rfl
      · rw [if_neg g20] at h13
        cases h13
        exact J14 rfl
  · rw [if_neg g11] at hf
    cases hf
set_option maxHeartbeats 4000000 in
set_option maxRecDepth 100000 in
theorem mL_c13 {p : Program} {l : Launch} {e : Env} {R : Room} {s : State} {m : MethodId} {args : Array Value} {below : List Frame} {meth : Method} {c : Code} {Q : State → Prop} {D : va_G} {U : zz_U} {A : Nat → Prop} {cells slots : Nat} {ad : Nat → Nat} {ret : Option FieldType} {b L : Nat} {xs : Nat → Int32} (C : zz_C p l R s m meth c D U A RL code 9 ret [] 12) (hX : va_X b L xs s s.heap) (hbl : b < s.heap.size) (hbA : ¬ A b) (hcR : cells + 8 ≤ R.cells) (hsR : slots + 48 ≤ R.slots) (i_ : Int32) (σ τ : zz_St) (o : Nat → Int64) (r : zz_LS) (hf : fL_c13 xs L i_ σ τ o = some (some r)) (k : zz_Z p l e R s m args below meth c Q D A 9 (cells + 8) (slots + 48) (zz_wl U ad r.1 r.2.1 r.2.2) 1867 [(0, .ref b), (1, .ref (ad 0)), (2, .ref (ad 47)), (3, .ref (ad 62)), (4, .int i_)] []) : zz_Z p l e R s m args below meth c Q D A 9 cells slots (zz_wl U ad σ τ o) 1020 [(0, .ref b), (1, .ref (ad 0)), (2, .ref (ad 47)), (3, .ref (ad 62)), (4, .int i_)] [] := by
  unfold fL_c13 at hf
  refine zz_aload_n C 1 dL_law_1020 rfl rfl ?_
  refine zz_aload_n C 0 dL_law_1021 rfl rfl ?_
  refine zz_iload C 4 dL_law_1022 rfl ?_
  refine zz_iconst (v := (1 : Int32)) C dL_law_1024 (by decide) ?_
  refine zz_iadd C dL_law_1025 ?_
  obtain ⟨x1, h2, hf⟩ := zz_bind hf
  refine zz_sld C hX hbl hbA dL_law_1026 h2 ?_
  refine zz_aload_n C 0 dL_law_1027 rfl rfl ?_
  refine zz_iload C 4 dL_law_1028 rfl ?_
  refine zz_iconst (v := (2 : Int32)) C dL_law_1030 (by decide) ?_
  refine zz_iadd C dL_law_1031 ?_
  obtain ⟨x3, h4, hf⟩ := zz_bind hf
  refine zz_sld C hX hbl hbA dL_law_1032 h4 ?_
  refine zz_aload_n C 0 dL_law_1033 rfl rfl ?_
  refine zz_iload C 4 dL_law_1034 rfl ?_
  refine zz_iconst (v := (3 : Int32)) C dL_law_1036 (by decide) ?_
  refine zz_iadd C dL_law_1037 ?_
  obtain ⟨x5, h6, hf⟩ := zz_bind hf
  refine zz_sld C hX hbl hbA dL_law_1038 h6 ?_
  refine zz_aload_n C 3 dL_law_1039 rfl rfl ?_
  obtain ⟨x7, h8, hf⟩ := zz_bind hf
  refine zz_callSH1 (As := [.ref (ad 0), .int x1, .int x3, .int x5, .ref (ad 62)]) (rest := []) C (mL_say σ τ o x1 x3 x5 x7 h8) dL_law_1040 rfl zwl_55 zy_L_say rfl (by decide) (by decide) (Nat.le_of_ble_eq_true rfl) (by omega) (by omega) rfl ?_
  refine zz_istore C dL_law_1043 (by decide) (lv' := [(5, .int x7.1), (0, .ref b), (1, .ref (ad 0)), (2, .ref (ad 47)), (3, .ref (ad 62)), (4, .int i_)]) rfl ?_
  refine zz_aload_n C 3 dL_law_1045 rfl rfl ?_
  refine zz_aload_n C 1 dL_law_1046 rfl rfl ?_
  refine zz_iload C 5 dL_law_1047 rfl ?_
  refine zz_iconst (v := (1 : Int32)) C dL_law_1049 (by decide) ?_
  refine zz_iadd C dL_law_1050 ?_
  obtain ⟨x9, h10, hf⟩ := zz_bind hf
  refine zz_sld C hX hbl hbA dL_law_1051 h10 ?_
  refine zz_aload_n C 1 dL_law_1052 rfl rfl ?_
  refine zz_iload C 5 dL_law_1053 rfl ?_
  refine zz_iconst (v := (2 : Int32)) C dL_law_1055 (by decide) ?_
  refine zz_iadd C dL_law_1056 ?_
  obtain ⟨x11, h12, hf⟩ := zz_bind hf
  refine zz_sld C hX hbl hbA dL_law_1057 h12 ?_
  refine zz_aload_n C 1 dL_law_1058 rfl rfl ?_
  refine zz_iload C 5 dL_law_1059 rfl ?_
  refine zz_iconst (v := (3 : Int32)) C dL_law_1061 (by decide) ?_
  refine zz_iadd C dL_law_1062 ?_
  obtain ⟨x13, h14, hf⟩ := zz_bind hf
  refine zz_sld C hX hbl hbA dL_law_1063 h14 ?_
  obtain ⟨x15, h16, hf⟩ := zz_bind hf
  refine zz_ren (ws' := (zz_wm U ad x7.2.1 τ [zz_oc U ad x7.2.2])) rfl ?_
  refine zz_callV1 (As := [.int x9, .int x11, .int x13]) (rest := []) C 47 (mX8_say τ x9 x11 x13 x15 h16) dL_law_1064 rfl rfl rfl zwl_54 zy_X8_say rfl (by decide) (by decide) (Nat.le_of_ble_eq_true rfl) (by omega) (by omega) rfl ?_
  refine zz_ren (ws' := (zz_wl U ad x7.2.1 x15.2 x7.2.2)) rfl ?_
  refine zz_istore C dL_law_1067 (by decide) (lv' := [(6, .int x15.1), (5, .int x7.1), (0, .ref b), (1, .ref (ad 0)), (2, .ref (ad 47)), (3, .ref (ad 62)), (4, .int i_)]) rfl ?_
  refine zz_aload_n C 4 dL_law_1069 rfl rfl ?_
  obtain ⟨x17, h18, hf⟩ := zz_bind hf
  refine zz_ren (ws' := (zz_wm U ad x7.2.1 x15.2 [zz_oc U ad x7.2.2])) rfl ?_
  refine zz_callV1 (As := []) (rest := []) C 47 (mX8_thrown x15.2 x17 h18) dL_law_1070 rfl rfl rfl zwl_27 zy_X8_thrown rfl (by decide) (by decide) (Nat.le_of_ble_eq_true rfl) (by omega) (by omega) rfl ?_
  refine zz_ren (ws' := (zz_wl U ad x7.2.1 x15.2 x7.2.2)) rfl ?_
  refine zz_iload C 1 dL_law_1073 rfl ?_
  refine zz_icmp_eq (tgt := 1080) C dL_law_1075 (by decide) (fun g19 => ?_) (fun g19 => ?_)
  · rw [if_pos g19] at hf
    obtain ⟨b20, h21, hf⟩ := zz_bind hf
    refine zz_cutI (P := b20 = true) 1095 [(6, .int x15.1), (5, .int x7.1), (0, .ref b), (1, .ref (ad 0)), (2, .ref (ad 47)), (3, .ref (ad 62)), (4, .int i_)] [] (zz_wl U ad x7.2.1 x15.2 x7.2.2) (fun g24 => ?_) (fun J22 => ?_)
    · rw [if_pos g24] at hf
      cases hf
    refine zz_cutI (P := b20 = false) 1097 [(6, .int x15.1), (5, .int x7.1), (0, .ref b), (1, .ref (ad 0)), (2, .ref (ad 47)), (3, .ref (ad 62)), (4, .int i_)] [] (zz_wl U ad x7.2.1 x15.2 x7.2.2) (fun g24 => ?_) (fun J23 => ?_)
    · rw [if_neg (show ¬ b20 = true by rw [g24]; decide)] at hf
      refine zz_goto (tgt := 1867) C dL_law_1097 (by decide) ?_
      refine zz_sub [2, 3, 4, 5, 6] rfl ?_
      cases hf
      refine zz_widen (k := cells + 8) (n := slots + 48) (by omega) (by omega) ?_
      exact k
    refine zz_iload C 1 dL_law_1080 rfl ?_
    refine zz_if_ne (tgt := 1097) C dL_law_1082 (by decide) (fun g25 => ?_) (fun g25 => ?_)
    · rw [if_neg g25] at h21
      cases h21
      exact J23 rfl
    · rw [if_pos g25] at h21
      refine zz_aload_n C 5 dL_law_1085 rfl rfl ?_
      refine zz_iconst (v := (0 : Int32)) C dL_law_1086 (by decide) ?_
      refine zz_lout C dL_law_1087 ?_
      refine zz_iload C 0 dL_law_1088 rfl ?_
      refine zz_i2l C dL_law_1090 ?_
      obtain ⟨x26, h27, h21⟩ := zz_bind h21
      refine zz_lcmp C dL_law_1091 ?_
      refine zz_topi (Option.some.inj h27) ?_
      refine zz_if_eq (tgt := 1097) C dL_law_1092 (by decide) (fun g28 => ?_) (fun g28 => ?_)
      · rw [if_pos g28] at h21
        cases h21
        exact J23 rfl
      · rw [if_neg g28] at h21
        cases h21
        exact J22 rfl
  · rw [if_neg g19] at hf
    cases hf
set_option maxHeartbeats 4000000 in
set_option maxRecDepth 100000 in
theorem mL_c14 {p : Program} {l : Launch} {e : Env} {R : Room} {s : State} {m : MethodId} {args : Array Value} {below : List Frame} {meth : Method} {c : Code} {Q : State → Prop} {D : va_G} {U : zz_U} {A : Nat → Prop} {cells slots : Nat} {ad : Nat → Nat} {ret : Option FieldType} {b L : Nat} {xs : Nat → Int32} (C : zz_C p l R s m meth c D U A RL code 9 ret [] 12) (hX : va_X b L xs s s.heap) (hbl : b < s.heap.size) (hbA : ¬ A b) (hcR : cells + 8 ≤ R.cells) (hsR : slots + 48 ≤ R.slots) (i_ : Int32) (σ τ : zz_St) (o : Nat → Int64) (r : zz_LS) (hf : fL_c14 xs L i_ σ τ o = some (some r)) (k : zz_Z p l e R s m args below meth c Q D A 9 (cells + 8) (slots + 48) (zz_wl U ad r.1 r.2.1 r.2.2) 1867 [(0, .ref b), (1, .ref (ad 0)), (2, .ref (ad 47)), (3, .ref (ad 62)), (4, .int i_)] []) : zz_Z p l e R s m args below meth c Q D A 9 cells slots (zz_wl U ad σ τ o) 1100 [(0, .ref b), (1, .ref (ad 0)), (2, .ref (ad 47)), (3, .ref (ad 62)), (4, .int i_)] [] := by
  unfold fL_c14 at hf
  refine zz_aload_n C 1 dL_law_1100 rfl rfl ?_
  obtain ⟨x1, h2, hf⟩ := zz_bind hf
  refine zz_ren (ws' := (zz_wc U ad σ (zz_cm U ad τ ++ [zz_oc U ad o]))) rfl ?_
  refine zz_callV1 (As := []) (rest := []) C 0 (mX7_groupCount σ x1 h2) dL_law_1101 rfl rfl rfl zwl_57 zy_X7_groupCount rfl (by decide) (by decide) (Nat.le_of_ble_eq_true rfl) (by omega) (by omega) rfl ?_
  refine zz_ren (ws' := (zz_wl U ad x1.2 τ o)) rfl ?_
  refine zz_aload_n C 2 dL_law_1104 rfl rfl ?_
  obtain ⟨x3, h4, hf⟩ := zz_bind hf
  refine zz_ren (ws' := (zz_wm U ad x1.2 τ [zz_oc U ad o])) rfl ?_
  refine zz_callV1 (As := []) (rest := [.int x1.1]) C 47 (mX8_groupCount τ x3 h4) dL_law_1105 rfl rfl rfl zwl_56 zy_X8_groupCount rfl (by decide) (by decide) (Nat.le_of_ble_eq_true rfl) (by omega) (by omega) rfl ?_
  refine zz_ren (ws' := (zz_wl U ad x1.2 x3.2 o)) rfl ?_
  refine zz_icmp_eq (tgt := 1867) C dL_law_1108 (by decide) (fun g5 => ?_) (fun g5 => ?_)
  · rw [if_pos g5] at hf
    cases hf
    refine zz_widen (k := cells + 8) (n := slots + 48) (by omega) (by omega) ?_
    exact k
  · rw [if_neg g5] at hf
    cases hf
set_option maxHeartbeats 4000000 in
set_option maxRecDepth 100000 in
theorem mL_c15 {p : Program} {l : Launch} {e : Env} {R : Room} {s : State} {m : MethodId} {args : Array Value} {below : List Frame} {meth : Method} {c : Code} {Q : State → Prop} {D : va_G} {U : zz_U} {A : Nat → Prop} {cells slots : Nat} {ad : Nat → Nat} {ret : Option FieldType} {b L : Nat} {xs : Nat → Int32} (C : zz_C p l R s m meth c D U A RL code 9 ret [] 12) (hX : va_X b L xs s s.heap) (hbl : b < s.heap.size) (hbA : ¬ A b) (hcR : cells + 8 ≤ R.cells) (hsR : slots + 48 ≤ R.slots) (i_ : Int32) (σ τ : zz_St) (o : Nat → Int64) (r : zz_LS) (hf : fL_c15 xs L i_ σ τ o = some (some r)) (k : zz_Z p l e R s m args below meth c Q D A 9 (cells + 8) (slots + 48) (zz_wl U ad r.1 r.2.1 r.2.2) 1867 [(0, .ref b), (1, .ref (ad 0)), (2, .ref (ad 47)), (3, .ref (ad 62)), (4, .int i_)] []) : zz_Z p l e R s m args below meth c Q D A 9 cells slots (zz_wl U ad σ τ o) 1113 [(0, .ref b), (1, .ref (ad 0)), (2, .ref (ad 47)), (3, .ref (ad 62)), (4, .int i_)] [] := by
  unfold fL_c15 at hf
  refine zz_aload_n C 1 dL_law_1113 rfl rfl ?_
  refine zz_aload_n C 0 dL_law_1114 rfl rfl ?_
  refine zz_iload C 4 dL_law_1115 rfl ?_
  refine zz_iconst (v := (1 : Int32)) C dL_law_1117 (by decide) ?_
  refine zz_iadd C dL_law_1118 ?_
  obtain ⟨x1, h2, hf⟩ := zz_bind hf
  refine zz_sld C hX hbl hbA dL_law_1119 h2 ?_
  refine zz_aload_n C 3 dL_law_1120 rfl rfl ?_
  obtain ⟨x3, h4, hf⟩ := zz_bind hf
  refine zz_callSH1 (As := [.ref (ad 0), .int x1, .ref (ad 62)]) (rest := []) C (mL_group σ τ o x1 x3 h4) dL_law_1121 rfl zwl_59 zy_L_group rfl (by decide) (by decide) (Nat.le_of_ble_eq_true rfl) (by omega) (by omega) rfl ?_
  refine zz_istore C dL_law_1124 (by decide) (lv' := [(5, .int x3.1), (0, .ref b), (1, .ref (ad 0)), (2, .ref (ad 47)), (3, .ref (ad 62)), (4, .int i_)]) rfl ?_
  refine zz_aload_n C 3 dL_law_1126 rfl rfl ?_
  refine zz_aload_n C 1 dL_law_1127 rfl rfl ?_
  refine zz_iload C 5 dL_law_1128 rfl ?_
  refine zz_iconst (v := (1 : Int32)) C dL_law_1130 (by decide) ?_
  refine zz_iadd C dL_law_1131 ?_
  obtain ⟨x5, h6, hf⟩ := zz_bind hf
  refine zz_sld C hX hbl hbA dL_law_1132 h6 ?_
  obtain ⟨x7, h8, hf⟩ := zz_bind hf
  refine zz_ren (ws' := (zz_wm U ad x3.2.1 τ [zz_oc U ad x3.2.2])) rfl ?_
  refine zz_callV1 (As := [.int x5]) (rest := []) C 47 (mX8_group τ x5 x7 h8) dL_law_1133 rfl rfl rfl zwl_58 zy_X8_group rfl (by decide) (by decide) (Nat.le_of_ble_eq_true rfl) (by omega) (by omega) rfl ?_
  refine zz_ren (ws' := (zz_wl U ad x3.2.1 x7.2 x3.2.2)) rfl ?_
  refine zz_istore C dL_law_1136 (by decide) (lv' := [(6, .int x7.1), (5, .int x3.1), (0, .ref b), (1, .ref (ad 0)), (2, .ref (ad 47)), (3, .ref (ad 62)), (4, .int i_)]) rfl ?_
  refine zz_aload_n C 4 dL_law_1138 rfl rfl ?_
  obtain ⟨x9, h10, hf⟩ := zz_bind hf
  refine zz_ren (ws' := (zz_wm U ad x3.2.1 x7.2 [zz_oc U ad x3.2.2])) rfl ?_
  refine zz_callV1 (As := []) (rest := []) C 47 (mX8_thrown x7.2 x9 h10) dL_law_1139 rfl rfl rfl zwl_27 zy_X8_thrown rfl (by decide) (by decide) (Nat.le_of_ble_eq_true rfl) (by omega) (by omega) rfl ?_
  refine zz_ren (ws' := (zz_wl U ad x3.2.1 x7.2 x3.2.2)) rfl ?_
  refine zz_iload C 1 dL_law_1142 rfl ?_
  refine zz_icmp_eq (tgt := 1149) C dL_law_1144 (by decide) (fun g11 => ?_) (fun g11 => ?_)
  · rw [if_pos g11] at hf
    obtain ⟨b12, h13, hf⟩ := zz_bind hf
    refine zz_cutI (P := b12 = true) 1164 [(6, .int x7.1), (5, .int x3.1), (0, .ref b), (1, .ref (ad 0)), (2, .ref (ad 47)), (3, .ref (ad 62)), (4, .int i_)] [] (zz_wl U ad x3.2.1 x7.2 x3.2.2) (fun g16 => ?_) (fun J14 => ?_)
    · rw [if_pos g16] at hf
      cases hf
    refine zz_cutI (P := b12 = false) 1166 [(6, .int x7.1), (5, .int x3.1), (0, .ref b), (1, .ref (ad 0)), (2, .ref (ad 47)), (3, .ref (ad 62)), (4, .int i_)] [] (zz_wl U ad x3.2.1 x7.2 x3.2.2) (fun g16 => ?_) (fun J15 => ?_)
    · rw [if_neg (show ¬ b12 = true by rw [g16]; decide)] at hf
      refine zz_goto (tgt := 1867) C dL_law_1166 (by decide) ?_
      refine zz_sub [2, 3, 4, 5, 6] rfl ?_
      cases hf
      refine zz_widen (k := cells + 8) (n := slots + 48) (by omega) (by omega) ?_
      exact k
    refine zz_iload C 1 dL_law_1149 rfl ?_
    refine zz_if_ne (tgt := 1166) C dL_law_1151 (by decide) (fun g17 => ?_) (fun g17 => ?_)
    · rw [if_neg g17] at h13
      cases h13
      exact J15 rfl
    · rw [if_pos g17] at h13
      refine zz_aload_n C 5 dL_law_1154 rfl rfl ?_
      refine zz_iconst (v := (0 : Int32)) C dL_law_1155 (by decide) ?_
      refine zz_lout C dL_law_1156 ?_
      refine zz_iload C 0 dL_law_1157 rfl ?_
      refine zz_i2l C dL_law_1159 ?_
      obtain ⟨x18, h19, h13⟩ := zz_bind h13
      refine zz_lcmp C dL_law_1160 ?_
      refine zz_topi (Option.some.inj h19) ?_
      refine zz_if_eq (tgt := 1166) C dL_law_1161 (by decide) (fun g20 => ?_) (fun g20 => ?_)
      · rw [if_pos g20] at h13
        cases h13
        exact J15 rfl
      · rw [if_neg g20] at h13
        cases h13
        exact J14 rfl
  · rw [if_neg g11] at hf
    cases hf
set_option maxHeartbeats 4000000 in
set_option maxRecDepth 100000 in
theorem mL_c16 {p : Program} {l : Launch} {e : Env} {R : Room} {s : State} {m : MethodId} {args : Array Value} {below : List Frame} {meth : Method} {c : Code} {Q : State → Prop} {D : va_G} {U : zz_U} {A : Nat → Prop} {cells slots : Nat} {ad : Nat → Nat} {ret : Option FieldType} {b L : Nat} {xs : Nat → Int32} (C : zz_C p l R s m meth c D U A RL code 9 ret [] 12) (hX : va_X b L xs s s.heap) (hbl : b < s.heap.size) (hbA : ¬ A b) (hcR : cells + 8 ≤ R.cells) (hsR : slots + 48 ≤ R.slots) (i_ : Int32) (σ τ : zz_St) (o : Nat → Int64) (r : zz_LS) (hf : fL_c16 xs L i_ σ τ o = some (some r)) (k : zz_Z p l e R s m args below meth c Q D A 9 (cells + 8) (slots + 48) (zz_wl U ad r.1 r.2.1 r.2.2) 1867 [(0, .ref b), (1, .ref (ad 0)), (2, .ref (ad 47)), (3, .ref (ad 62)), (4, .int i_)] []) : zz_Z p l e R s m args below meth c Q D A 9 cells slots (zz_wl U ad σ τ o) 1169 [(0, .ref b), (1, .ref (ad 0)), (2, .ref (ad 47)), (3, .ref (ad 62)), (4, .int i_)] [] := by
  unfold fL_c16 at hf
  refine zz_aload_n C 1 dL_law_1169 rfl rfl ?_
  refine zz_aload_n C 0 dL_law_1170 rfl rfl ?_
  refine zz_iload C 4 dL_law_1171 rfl ?_
  refine zz_iconst (v := (1 : Int32)) C dL_law_1173 (by decide) ?_
  refine zz_iadd C dL_law_1174 ?_
  obtain ⟨x1, h2, hf⟩ := zz_bind hf
  refine zz_sld C hX hbl hbA dL_law_1175 h2 ?_
  refine zz_aload_n C 3 dL_law_1176 rfl rfl ?_
  obtain ⟨x3, h4, hf⟩ := zz_bind hf
  refine zz_callSH1 (As := [.ref (ad 0), .int x1, .ref (ad 62)]) (rest := []) C (mL_groupOf σ τ o x1 x3 h4) dL_law_1177 rfl zwl_61 zy_L_groupOf rfl (by decide) (by decide) (Nat.le_of_ble_eq_true rfl) (by omega) (by omega) rfl ?_
  refine zz_istore C dL_law_1180 (by decide) (lv' := [(5, .int x3.1), (0, .ref b), (1, .ref (ad 0)), (2, .ref (ad 47)), (3, .ref (ad 62)), (4, .int i_)]) rfl ?_
  refine zz_aload_n C 3 dL_law_1182 rfl rfl ?_
  refine zz_aload_n C 1 dL_law_1183 rfl rfl ?_
  refine zz_iload C 5 dL_law_1184 rfl ?_
  refine zz_iconst (v := (1 : Int32)) C dL_law_1186 (by decide) ?_
  refine zz_iadd C dL_law_1187 ?_
  obtain ⟨x5, h6, hf⟩ := zz_bind hf
  refine zz_sld C hX hbl hbA dL_law_1188 h6 ?_
  obtain ⟨x7, h8, hf⟩ := zz_bind hf
  refine zz_ren (ws' := (zz_wm U ad x3.2.1 τ [zz_oc U ad x3.2.2])) rfl ?_
  refine zz_callV1 (As := [.int x5]) (rest := []) C 47 (mX8_groupOf τ x5 x7 h8) dL_law_1189 rfl rfl rfl zwl_60 zy_X8_groupOf rfl (by decide) (by decide) (Nat.le_of_ble_eq_true rfl) (by omega) (by omega) rfl ?_
  refine zz_ren (ws' := (zz_wl U ad x3.2.1 x7.2 x3.2.2)) rfl ?_
  refine zz_istore C dL_law_1192 (by decide) (lv' := [(6, .int x7.1), (5, .int x3.1), (0, .ref b), (1, .ref (ad 0)), (2, .ref (ad 47)), (3, .ref (ad 62)), (4, .int i_)]) rfl ?_
  refine zz_aload_n C 4 dL_law_1194 rfl rfl ?_
  obtain ⟨x9, h10, hf⟩ := zz_bind hf
  refine zz_ren (ws' := (zz_wm U ad x3.2.1 x7.2 [zz_oc U ad x3.2.2])) rfl ?_
  refine zz_callV1 (As := []) (rest := []) C 47 (mX8_thrown x7.2 x9 h10) dL_law_1195 rfl rfl rfl zwl_27 zy_X8_thrown rfl (by decide) (by decide) (Nat.le_of_ble_eq_true rfl) (by omega) (by omega) rfl ?_
  refine zz_ren (ws' := (zz_wl U ad x3.2.1 x7.2 x3.2.2)) rfl ?_
  refine zz_iload C 1 dL_law_1198 rfl ?_
  refine zz_icmp_eq (tgt := 1205) C dL_law_1200 (by decide) (fun g11 => ?_) (fun g11 => ?_)
  · rw [if_pos g11] at hf
    obtain ⟨b12, h13, hf⟩ := zz_bind hf
    refine zz_cutI (P := b12 = true) 1220 [(6, .int x7.1), (5, .int x3.1), (0, .ref b), (1, .ref (ad 0)), (2, .ref (ad 47)), (3, .ref (ad 62)), (4, .int i_)] [] (zz_wl U ad x3.2.1 x7.2 x3.2.2) (fun g16 => ?_) (fun J14 => ?_)
    · rw [if_pos g16] at hf
      cases hf
    refine zz_cutI (P := b12 = false) 1222 [(6, .int x7.1), (5, .int x3.1), (0, .ref b), (1, .ref (ad 0)), (2, .ref (ad 47)), (3, .ref (ad 62)), (4, .int i_)] [] (zz_wl U ad x3.2.1 x7.2 x3.2.2) (fun g16 => ?_) (fun J15 => ?_)
    · rw [if_neg (show ¬ b12 = true by rw [g16]; decide)] at hf
      refine zz_goto (tgt := 1867) C dL_law_1222 (by decide) ?_
      refine zz_sub [2, 3, 4, 5, 6] rfl ?_
      cases hf
      refine zz_widen (k := cells + 8) (n := slots + 48) (by omega) (by omega) ?_
      exact k
    refine zz_iload C 1 dL_law_1205 rfl ?_
    refine zz_if_ne (tgt := 1222) C dL_law_1207 (by decide) (fun g17 => ?_) (fun g17 => ?_)
    · rw [if_neg g17] at h13
      cases h13
      exact J15 rfl
    · rw [if_pos g17] at h13
      refine zz_aload_n C 5 dL_law_1210 rfl rfl ?_
      refine zz_iconst (v := (0 : Int32)) C dL_law_1211 (by decide) ?_
      refine zz_lout C dL_law_1212 ?_
      refine zz_iload C 0 dL_law_1213 rfl ?_
      refine zz_i2l C dL_law_1215 ?_
      obtain ⟨x18, h19, h13⟩ := zz_bind h13
      refine zz_lcmp C dL_law_1216 ?_
      refine zz_topi (Option.some.inj h19) ?_
      refine zz_if_eq (tgt := 1222) C dL_law_1217 (by decide) (fun g20 => ?_) (fun g20 => ?_)
      · rw [if_pos g20] at h13
        cases h13
        exact J15 rfl
      · rw [if_neg g20] at h13
        cases h13
        exact J14 rfl
  · rw [if_neg g11] at hf
    cases hf
set_option maxHeartbeats 4000000 in
set_option maxRecDepth 100000 in
theorem mL_c17 {p : Program} {l : Launch} {e : Env} {R : Room} {s : State} {m : MethodId} {args : Array Value} {below : List Frame} {meth : Method} {c : Code} {Q : State → Prop} {D : va_G} {U : zz_U} {A : Nat → Prop} {cells slots : Nat} {ad : Nat → Nat} {ret : Option FieldType} {b L : Nat} {xs : Nat → Int32} (C : zz_C p l R s m meth c D U A RL code 9 ret [] 12) (hX : va_X b L xs s s.heap) (hbl : b < s.heap.size) (hbA : ¬ A b) (hcR : cells + 8 ≤ R.cells) (hsR : slots + 48 ≤ R.slots) (i_ : Int32) (σ τ : zz_St) (o : Nat → Int64) (r : zz_LS) (hf : fL_c17 xs L i_ σ τ o = some (some r)) (k : zz_Z p l e R s m args below meth c Q D A 9 (cells + 8) (slots + 48) (zz_wl U ad r.1 r.2.1 r.2.2) 1867 [(0, .ref b), (1, .ref (ad 0)), (2, .ref (ad 47)), (3, .ref (ad 62)), (4, .int i_)] []) : zz_Z p l e R s m args below meth c Q D A 9 cells slots (zz_wl U ad σ τ o) 1225 [(0, .ref b), (1, .ref (ad 0)), (2, .ref (ad 47)), (3, .ref (ad 62)), (4, .int i_)] [] := by
  unfold fL_c17 at hf
  refine zz_aload_n C 1 dL_law_1225 rfl rfl ?_
  refine zz_aload_n C 0 dL_law_1226 rfl rfl ?_
  refine zz_iload C 4 dL_law_1227 rfl ?_
  refine zz_iconst (v := (1 : Int32)) C dL_law_1229 (by decide) ?_
  refine zz_iadd C dL_law_1230 ?_
  obtain ⟨x1, h2, hf⟩ := zz_bind hf
  refine zz_sld C hX hbl hbA dL_law_1231 h2 ?_
  refine zz_aload_n C 0 dL_law_1232 rfl rfl ?_
  refine zz_iload C 4 dL_law_1233 rfl ?_
  refine zz_iconst (v := (2 : Int32)) C dL_law_1235 (by decide) ?_
  refine zz_iadd C dL_law_1236 ?_
  obtain ⟨x3, h4, hf⟩ := zz_bind hf
  refine zz_sld C hX hbl hbA dL_law_1237 h4 ?_
  refine zz_aload_n C 3 dL_law_1238 rfl rfl ?_
  obtain ⟨x5, h6, hf⟩ := zz_bind hf
  refine zz_callSH1 (As := [.ref (ad 0), .int x1, .int x3, .ref (ad 62)]) (rest := []) C (mL_linkage σ τ o x1 x3 x5 h6) dL_law_1239 rfl zwl_63 zy_L_linkage rfl (by decide) (by decide) (Nat.le_of_ble_eq_true rfl) (by omega) (by omega) rfl ?_
  refine zz_istore C dL_law_1242 (by decide) (lv' := [(5, .int x5.1), (0, .ref b), (1, .ref (ad 0)), (2, .ref (ad 47)), (3, .ref (ad 62)), (4, .int i_)]) rfl ?_
  refine zz_aload_n C 3 dL_law_1244 rfl rfl ?_
  refine zz_aload_n C 1 dL_law_1245 rfl rfl ?_
  refine zz_iload C 5 dL_law_1246 rfl ?_
  refine zz_iconst (v := (1 : Int32)) C dL_law_1248 (by decide) ?_
  refine zz_iadd C dL_law_1249 ?_
  obtain ⟨x7, h8, hf⟩ := zz_bind hf
  refine zz_sld C hX hbl hbA dL_law_1250 h8 ?_
  refine zz_aload_n C 1 dL_law_1251 rfl rfl ?_
  refine zz_iload C 5 dL_law_1252 rfl ?_
  refine zz_iconst (v := (2 : Int32)) C dL_law_1254 (by decide) ?_
  refine zz_iadd C dL_law_1255 ?_
  obtain ⟨x9, h10, hf⟩ := zz_bind hf
  refine zz_sld C hX hbl hbA dL_law_1256 h10 ?_
  obtain ⟨x11, h12, hf⟩ := zz_bind hf
  refine zz_ren (ws' := (zz_wm U ad x5.2.1 τ [zz_oc U ad x5.2.2])) rfl ?_
  refine zz_callV1 (As := [.int x7, .int x9]) (rest := []) C 47 (mX8_linkage τ x7 x9 x11 h12) dL_law_1257 rfl rfl rfl zwl_62 zy_X8_linkage rfl (by decide) (by decide) (Nat.le_of_ble_eq_true rfl) (by omega) (by omega) rfl ?_
  refine zz_ren (ws' := (zz_wl U ad x5.2.1 x11.2 x5.2.2)) rfl ?_
  refine zz_istore C dL_law_1260 (by decide) (lv' := [(6, .int x11.1), (5, .int x5.1), (0, .ref b), (1, .ref (ad 0)), (2, .ref (ad 47)), (3, .ref (ad 62)), (4, .int i_)]) rfl ?_
  refine zz_aload_n C 4 dL_law_1262 rfl rfl ?_
  obtain ⟨x13, h14, hf⟩ := zz_bind hf
  refine zz_ren (ws' := (zz_wm U ad x5.2.1 x11.2 [zz_oc U ad x5.2.2])) rfl ?_
  refine zz_callV1 (As := []) (rest := []) C 47 (mX8_thrown x11.2 x13 h14) dL_law_1263 rfl rfl rfl zwl_27 zy_X8_thrown rfl (by decide) (by decide) (Nat.le_of_ble_eq_true rfl) (by omega) (by omega) rfl ?_
  refine zz_ren (ws' := (zz_wl U ad x5.2.1 x11.2 x5.2.2)) rfl ?_
  refine zz_iload C 1 dL_law_1266 rfl ?_
  refine zz_icmp_eq (tgt := 1273) C dL_law_1268 (by decide) (fun g15 => ?_) (fun g15 => ?_)
  · rw [if_pos g15] at hf
    obtain ⟨b16, h17, hf⟩ := zz_bind hf
    refine zz_cutI (P := b16 = true) 1288 [(6, .int x11.1), (5, .int x5.1), (0, .ref b), (1, .ref (ad 0)), (2, .ref (ad 47)), (3, .ref (ad 62)), (4, .int i_)] [] (zz_wl U ad x5.2.1 x11.2 x5.2.2) (fun g20 => ?_) (fun J18 => ?_)
    · rw [if_pos g20] at hf
      cases hf
    refine zz_cutI (P := b16 = false) 1290 [(6, .int x11.1), (5, .int x5.1), (0, .ref b), (1, .ref (ad 0)), (2, .ref (ad 47)), (3, .ref (ad 62)), (4, .int i_)] [] (zz_wl U ad x5.2.1 x11.2 x5.2.2) (fun g20 => ?_) (fun J19 => ?_)
    · rw [if_neg (show ¬ b16 = true by rw [g20]; decide)] at hf
      refine zz_goto (tgt := 1867) C dL_law_1290 (by decide) ?_
      refine zz_sub [2, 3, 4, 5, 6] rfl ?_
      cases hf
      refine zz_widen (k := cells + 8) (n := slots + 48) (by omega) (by omega) ?_
      exact k
    refine zz_iload C 1 dL_law_1273 rfl ?_
    refine zz_if_ne (tgt := 1290) C dL_law_1275 (by decide) (fun g21 => ?_) (fun g21 => ?_)
    · rw [if_neg g21] at h17
      cases h17
      exact J19 rfl
    · rw [if_pos g21] at h17
      refine zz_aload_n C 5 dL_law_1278 rfl rfl ?_
      refine zz_iconst (v := (0 : Int32)) C dL_law_1279 (by decide) ?_
      refine zz_lout C dL_law_1280 ?_
      refine zz_iload C 0 dL_law_1281 rfl ?_
      refine zz_i2l C dL_law_1283 ?_
      obtain ⟨x22, h23, h17⟩ := zz_bind h17
      refine zz_lcmp C dL_law_1284 ?_
      refine zz_topi (Option.some.inj h23) ?_
      refine zz_if_eq (tgt := 1290) C dL_law_1285 (by decide) (fun g24 => ?_) (fun g24 => ?_)
      · rw [if_pos g24] at h17
        cases h17
        exact J19 rfl
      · rw [if_neg g24] at h17
        cases h17
        exact J18 rfl
  · rw [if_neg g15] at hf
    cases hf
set_option maxHeartbeats 4000000 in
set_option maxRecDepth 100000 in
theorem mL_c18 {p : Program} {l : Launch} {e : Env} {R : Room} {s : State} {m : MethodId} {args : Array Value} {below : List Frame} {meth : Method} {c : Code} {Q : State → Prop} {D : va_G} {U : zz_U} {A : Nat → Prop} {cells slots : Nat} {ad : Nat → Nat} {ret : Option FieldType} {b L : Nat} {xs : Nat → Int32} (C : zz_C p l R s m meth c D U A RL code 9 ret [] 12) (hX : va_X b L xs s s.heap) (hbl : b < s.heap.size) (hbA : ¬ A b) (hcR : cells + 8 ≤ R.cells) (hsR : slots + 48 ≤ R.slots) (i_ : Int32) (σ τ : zz_St) (o : Nat → Int64) (r : zz_LS) (hf : fL_c18 xs L i_ σ τ o = some (some r)) (k : zz_Z p l e R s m args below meth c Q D A 9 (cells + 8) (slots + 48) (zz_wl U ad r.1 r.2.1 r.2.2) 1867 [(0, .ref b), (1, .ref (ad 0)), (2, .ref (ad 47)), (3, .ref (ad 62)), (4, .int i_)] []) : zz_Z p l e R s m args below meth c Q D A 9 cells slots (zz_wl U ad σ τ o) 1293 [(0, .ref b), (1, .ref (ad 0)), (2, .ref (ad 47)), (3, .ref (ad 62)), (4, .int i_)] [] := by
  unfold fL_c18 at hf
  refine zz_aload_n C 1 dL_law_1293 rfl rfl ?_
  obtain ⟨x1, h2, hf⟩ := zz_bind hf
  refine zz_ren (ws' := (zz_wc U ad σ (zz_cm U ad τ ++ [zz_oc U ad o]))) rfl ?_
  refine zz_callV1 (As := []) (rest := []) C 0 (mX7_lastLinkage σ x1 h2) dL_law_1294 rfl rfl rfl zwl_65 zy_X7_lastLinkage rfl (by decide) (by decide) (Nat.le_of_ble_eq_true rfl) (by omega) (by omega) rfl ?_
  refine zz_ren (ws' := (zz_wl U ad x1.2 τ o)) rfl ?_
  refine zz_aload_n C 2 dL_law_1297 rfl rfl ?_
  obtain ⟨x3, h4, hf⟩ := zz_bind hf
  refine zz_ren (ws' := (zz_wm U ad x1.2 τ [zz_oc U ad o])) rfl ?_
  refine zz_callV1 (As := []) (rest := [.int x1.1]) C 47 (mX8_lastLinkage τ x3 h4) dL_law_1298 rfl rfl rfl zwl_64 zy_X8_lastLinkage rfl (by decide) (by decide) (Nat.le_of_ble_eq_true rfl) (by omega) (by omega) rfl ?_
  refine zz_ren (ws' := (zz_wl U ad x1.2 x3.2 o)) rfl ?_
  refine zz_icmp_eq (tgt := 1867) C dL_law_1301 (by decide) (fun g5 => ?_) (fun g5 => ?_)
  · rw [if_pos g5] at hf
    cases hf
    refine zz_widen (k := cells + 8) (n := slots + 48) (by omega) (by omega) ?_
    exact k
  · rw [if_neg g5] at hf
    cases hf
set_option maxHeartbeats 4000000 in
set_option maxRecDepth 100000 in
theorem mL_c19 {p : Program} {l : Launch} {e : Env} {R : Room} {s : State} {m : MethodId} {args : Array Value} {below : List Frame} {meth : Method} {c : Code} {Q : State → Prop} {D : va_G} {U : zz_U} {A : Nat → Prop} {cells slots : Nat} {ad : Nat → Nat} {ret : Option FieldType} {b L : Nat} {xs : Nat → Int32} (C : zz_C p l R s m meth c D U A RL code 9 ret [] 12) (hX : va_X b L xs s s.heap) (hbl : b < s.heap.size) (hbA : ¬ A b) (hcR : cells + 8 ≤ R.cells) (hsR : slots + 48 ≤ R.slots) (i_ : Int32) (σ τ : zz_St) (o : Nat → Int64) (r : zz_LS) (hf : fL_c19 xs L i_ σ τ o = some (some r)) (k : zz_Z p l e R s m args below meth c Q D A 9 (cells + 8) (slots + 48) (zz_wl U ad r.1 r.2.1 r.2.2) 1867 [(0, .ref b), (1, .ref (ad 0)), (2, .ref (ad 47)), (3, .ref (ad 62)), (4, .int i_)] []) : zz_Z p l e R s m args below meth c Q D A 9 cells slots (zz_wl U ad σ τ o) 1306 [(0, .ref b), (1, .ref (ad 0)), (2, .ref (ad 47)), (3, .ref (ad 62)), (4, .int i_)] [] := by
  unfold fL_c19 at hf
  refine zz_aload_n C 1 dL_law_1306 rfl rfl ?_
  refine zz_aload_n C 0 dL_law_1307 rfl rfl ?_
  refine zz_iload C 4 dL_law_1308 rfl ?_
  refine zz_iconst (v := (1 : Int32)) C dL_law_1310 (by decide) ?_
  refine zz_iadd C dL_law_1311 ?_
  obtain ⟨x1, h2, hf⟩ := zz_bind hf
  refine zz_sld C hX hbl hbA dL_law_1312 h2 ?_
  refine zz_aload_n C 0 dL_law_1313 rfl rfl ?_
  refine zz_iload C 4 dL_law_1314 rfl ?_
  refine zz_iconst (v := (2 : Int32)) C dL_law_1316 (by decide) ?_
  refine zz_iadd C dL_law_1317 ?_
  obtain ⟨x3, h4, hf⟩ := zz_bind hf
  refine zz_sld C hX hbl hbA dL_law_1318 h4 ?_
  refine zz_aload_n C 3 dL_law_1319 rfl rfl ?_
  obtain ⟨x5, h6, hf⟩ := zz_bind hf
  refine zz_callSH1 (As := [.ref (ad 0), .int x1, .int x3, .ref (ad 62)]) (rest := []) C (mL_needs σ τ o x1 x3 x5 h6) dL_law_1320 rfl zwl_67 zy_L_needs rfl (by decide) (by decide) (Nat.le_of_ble_eq_true rfl) (by omega) (by omega) rfl ?_
  refine zz_istore C dL_law_1323 (by decide) (lv' := [(5, .int x5.1), (0, .ref b), (1, .ref (ad 0)), (2, .ref (ad 47)), (3, .ref (ad 62)), (4, .int i_)]) rfl ?_
  refine zz_aload_n C 3 dL_law_1325 rfl rfl ?_
  refine zz_aload_n C 1 dL_law_1326 rfl rfl ?_
  refine zz_iload C 5 dL_law_1327 rfl ?_
  refine zz_iconst (v := (1 : Int32)) C dL_law_1329 (by decide) ?_
  refine zz_iadd C dL_law_1330 ?_
  obtain ⟨x7, h8, hf⟩ := zz_bind hf
  refine zz_sld C hX hbl hbA dL_law_1331 h8 ?_
  refine zz_aload_n C 1 dL_law_1332 rfl rfl ?_
  refine zz_iload C 5 dL_law_1333 rfl ?_
  refine zz_iconst (v := (2 : Int32)) C dL_law_1335 (by decide) ?_
  refine zz_iadd C dL_law_1336 ?_
  obtain ⟨x9, h10, hf⟩ := zz_bind hf
  refine zz_sld C hX hbl hbA dL_law_1337 h10 ?_
  obtain ⟨x11, h12, hf⟩ := zz_bind hf
  refine zz_ren (ws' := (zz_wm U ad x5.2.1 τ [zz_oc U ad x5.2.2])) rfl ?_
  refine zz_callV1 (As := [.int x7, .int x9]) (rest := []) C 47 (mX8_needs τ x7 x9 x11 h12) dL_law_1338 rfl rfl rfl zwl_66 zy_X8_needs rfl (by decide) (by decide) (Nat.le_of_ble_eq_true rfl) (by omega) (by omega) rfl ?_
  refine zz_ren (ws' := (zz_wl U ad x5.2.1 x11.2 x5.2.2)) rfl ?_
  refine zz_istore C dL_law_1341 (by decide) (lv' := [(6, .int x11.1), (5, .int x5.1), (0, .ref b), (1, .ref (ad 0)), (2, .ref (ad 47)), (3, .ref (ad 62)), (4, .int i_)]) rfl ?_
  refine zz_aload_n C 4 dL_law_1343 rfl rfl ?_
  obtain ⟨x13, h14, hf⟩ := zz_bind hf
  refine zz_ren (ws' := (zz_wm U ad x5.2.1 x11.2 [zz_oc U ad x5.2.2])) rfl ?_
  refine zz_callV1 (As := []) (rest := []) C 47 (mX8_thrown x11.2 x13 h14) dL_law_1344 rfl rfl rfl zwl_27 zy_X8_thrown rfl (by decide) (by decide) (Nat.le_of_ble_eq_true rfl) (by omega) (by omega) rfl ?_
  refine zz_ren (ws' := (zz_wl U ad x5.2.1 x11.2 x5.2.2)) rfl ?_
  refine zz_iload C 1 dL_law_1347 rfl ?_
  refine zz_icmp_eq (tgt := 1354) C dL_law_1349 (by decide) (fun g15 => ?_) (fun g15 => ?_)
  · rw [if_pos g15] at hf
    obtain ⟨b16, h17, hf⟩ := zz_bind hf
    refine zz_cutI (P := b16 = true) 1376 [(6, .int x11.1), (5, .int x5.1), (0, .ref b), (1, .ref (ad 0)), (2, .ref (ad 47)), (3, .ref (ad 62)), (4, .int i_)] [] (zz_wl U ad x5.2.1 x11.2 x5.2.2) (fun g20 => ?_) (fun J18 => ?_)
    · rw [if_pos g20] at hf
      cases hf
    refine zz_cutI (P := b16 = false) 1378 [(6, .int x11.1), (5, .int x5.1), (0, .ref b), (1, .ref (ad 0)), (2, .ref (ad 47)), (3, .ref (ad 62)), (4, .int i_)] [] (zz_wl U ad x5.2.1 x11.2 x5.2.2) (fun g20 => ?_) (fun J19 => ?_)
    · rw [if_neg (show ¬ b16 = true by rw [g20]; decide)] at hf
      refine zz_goto (tgt := 1867) C dL_law_1378 (by decide) ?_
      refine zz_sub [2, 3, 4, 5, 6] rfl ?_
      cases hf
      refine zz_widen (k := cells + 8) (n := slots + 48) (by omega) (by omega) ?_
      exact k
    refine zz_iload C 1 dL_law_1354 rfl ?_
    refine zz_if_ne (tgt := 1378) C dL_law_1356 (by decide) (fun g21 => ?_) (fun g21 => ?_)
    · rw [if_neg g21] at h17
      cases h17
      exact J19 rfl
    · rw [if_pos g21] at h17
      refine zz_aload_n C 5 dL_law_1359 rfl rfl ?_
      refine zz_iconst (v := (0 : Int32)) C dL_law_1360 (by decide) ?_
      refine zz_lout C dL_law_1361 ?_
      obtain ⟨x22, h23, h17⟩ := zz_bind h17
      refine zz_cut 1372 [(6, .int x11.1), (5, .int x5.1), (0, .ref b), (1, .ref (ad 0)), (2, .ref (ad 47)), (3, .ref (ad 62)), (4, .int i_)] [.long x22, .long (x5.2.2 0)] (zz_wl U ad x5.2.1 x11.2 x5.2.2) ?_ (fun J24 => ?_)
      · obtain ⟨x26, h27, h17⟩ := zz_bind h17
        refine zz_lcmp C dL_law_1372 ?_
        refine zz_topi (Option.some.inj h27) ?_
        refine zz_if_eq (tgt := 1378) C dL_law_1373 (by decide) (fun g28 => ?_) (fun g28 => ?_)
        · rw [if_pos g28] at h17
          cases h17
          exact J19 rfl
        · rw [if_neg g28] at h17
          cases h17
          exact J18 rfl
      refine zz_iload C 0 dL_law_1362 rfl ?_
      refine zz_if_eq (tgt := 1371) C dL_law_1364 (by decide) (fun g25 => ?_) (fun g25 => ?_)
      · rw [if_pos g25] at h23
        refine zz_lconst (v := (0 : Int64)) C dL_law_1371 (by decide) ?_
        cases h23
        exact J24
      · rw [if_neg g25] at h23
        refine zz_lconst (v := (1 : Int64)) C dL_law_1367 (by decide) ?_
        refine zz_goto (tgt := 1372) C dL_law_1368 (by decide) ?_
        cases h23
        exact J24
  · rw [if_neg g15] at hf
    cases hf
set_option maxHeartbeats 4000000 in
set_option maxRecDepth 100000 in
theorem mL_c20 {p : Program} {l : Launch} {e : Env} {R : Room} {s : State} {m : MethodId} {args : Array Value} {below : List Frame} {meth : Method} {c : Code} {Q : State → Prop} {D : va_G} {U : zz_U} {A : Nat → Prop} {cells slots : Nat} {ad : Nat → Nat} {ret : Option FieldType} {b L : Nat} {xs : Nat → Int32} (C : zz_C p l R s m meth c D U A RL code 9 ret [] 12) (hX : va_X b L xs s s.heap) (hbl : b < s.heap.size) (hbA : ¬ A b) (hcR : cells + 8 ≤ R.cells) (hsR : slots + 48 ≤ R.slots) (i_ : Int32) (σ τ : zz_St) (o : Nat → Int64) (r : zz_LS) (hf : fL_c20 xs L i_ σ τ o = some (some r)) (k : zz_Z p l e R s m args below meth c Q D A 9 (cells + 8) (slots + 48) (zz_wl U ad r.1 r.2.1 r.2.2) 1867 [(0, .ref b), (1, .ref (ad 0)), (2, .ref (ad 47)), (3, .ref (ad 62)), (4, .int i_)] []) : zz_Z p l e R s m args below meth c Q D A 9 cells slots (zz_wl U ad σ τ o) 1381 [(0, .ref b), (1, .ref (ad 0)), (2, .ref (ad 47)), (3, .ref (ad 62)), (4, .int i_)] [] := by
  unfold fL_c20 at hf
  refine zz_aload_n C 1 dL_law_1381 rfl rfl ?_
  obtain ⟨x1, h2, hf⟩ := zz_bind hf
  refine zz_ren (ws' := (zz_wc U ad σ (zz_cm U ad τ ++ [zz_oc U ad o]))) rfl ?_
  refine zz_callV1 (As := []) (rest := []) C 0 (mX7_parcelCount σ x1 h2) dL_law_1382 rfl rfl rfl zwl_69 zy_X7_parcelCount rfl (by decide) (by decide) (Nat.le_of_ble_eq_true rfl) (by omega) (by omega) rfl ?_
  refine zz_ren (ws' := (zz_wl U ad x1.2 τ o)) rfl ?_
  refine zz_aload_n C 2 dL_law_1385 rfl rfl ?_
  obtain ⟨x3, h4, hf⟩ := zz_bind hf
  refine zz_ren (ws' := (zz_wm U ad x1.2 τ [zz_oc U ad o])) rfl ?_
  refine zz_callV1 (As := []) (rest := [.int x1.1]) C 47 (mX8_parcelCount τ x3 h4) dL_law_1386 rfl rfl rfl zwl_68 zy_X8_parcelCount rfl (by decide) (by decide) (Nat.le_of_ble_eq_true rfl) (by omega) (by omega) rfl ?_
  refine zz_ren (ws' := (zz_wl U ad x1.2 x3.2 o)) rfl ?_
  refine zz_icmp_eq (tgt := 1867) C dL_law_1389 (by decide) (fun g5 => ?_) (fun g5 => ?_)
  · rw [if_pos g5] at hf
    cases hf
    refine zz_widen (k := cells + 8) (n := slots + 48) (by omega) (by omega) ?_
    exact k
  · rw [if_neg g5] at hf
    cases hf
set_option maxHeartbeats 4000000 in
set_option maxRecDepth 100000 in
theorem mL_c21 {p : Program} {l : Launch} {e : Env} {R : Room} {s : State} {m : MethodId} {args : Array Value} {below : List Frame} {meth : Method} {c : Code} {Q : State → Prop} {D : va_G} {U : zz_U} {A : Nat → Prop} {cells slots : Nat} {ad : Nat → Nat} {ret : Option FieldType} {b L : Nat} {xs : Nat → Int32} (C : zz_C p l R s m meth c D U A RL code 9 ret [] 12) (hX : va_X b L xs s s.heap) (hbl : b < s.heap.size) (hbA : ¬ A b) (hcR : cells + 8 ≤ R.cells) (hsR : slots + 48 ≤ R.slots) (i_ : Int32) (σ τ : zz_St) (o : Nat → Int64) (r : zz_LS) (hf : fL_c21 xs L i_ σ τ o = some (some r)) (k : zz_Z p l e R s m args below meth c Q D A 9 (cells + 8) (slots + 48) (zz_wl U ad r.1 r.2.1 r.2.2) 1867 [(0, .ref b), (1, .ref (ad 0)), (2, .ref (ad 47)), (3, .ref (ad 62)), (4, .int i_)] []) : zz_Z p l e R s m args below meth c Q D A 9 cells slots (zz_wl U ad σ τ o) 1394 [(0, .ref b), (1, .ref (ad 0)), (2, .ref (ad 47)), (3, .ref (ad 62)), (4, .int i_)] [] := by
  unfold fL_c21 at hf
  refine zz_aload_n C 1 dL_law_1394 rfl rfl ?_
  refine zz_aload_n C 0 dL_law_1395 rfl rfl ?_
  refine zz_iload C 4 dL_law_1396 rfl ?_
  refine zz_iconst (v := (1 : Int32)) C dL_law_1398 (by decide) ?_
  refine zz_iadd C dL_law_1399 ?_
  obtain ⟨x1, h2, hf⟩ := zz_bind hf
  refine zz_sld C hX hbl hbA dL_law_1400 h2 ?_
  refine zz_aload_n C 3 dL_law_1401 rfl rfl ?_
  obtain ⟨x3, h4, hf⟩ := zz_bind hf
  refine zz_callSH1 (As := [.ref (ad 0), .int x1, .ref (ad 62)]) (rest := []) C (mL_parcel σ τ o x1 x3 h4) dL_law_1402 rfl zwl_71 zy_L_parcel rfl (by decide) (by decide) (Nat.le_of_ble_eq_true rfl) (by omega) (by omega) rfl ?_
  refine zz_istore C dL_law_1405 (by decide) (lv' := [(5, .int x3.1), (0, .ref b), (1, .ref (ad 0)), (2, .ref (ad 47)), (3, .ref (ad 62)), (4, .int i_)]) rfl ?_
  refine zz_aload_n C 3 dL_law_1407 rfl rfl ?_
  refine zz_aload_n C 1 dL_law_1408 rfl rfl ?_
  refine zz_iload C 5 dL_law_1409 rfl ?_
  refine zz_iconst (v := (1 : Int32)) C dL_law_1411 (by decide) ?_
  refine zz_iadd C dL_law_1412 ?_
  obtain ⟨x5, h6, hf⟩ := zz_bind hf
  refine zz_sld C hX hbl hbA dL_law_1413 h6 ?_
  obtain ⟨x7, h8, hf⟩ := zz_bind hf
  refine zz_ren (ws' := (zz_wm U ad x3.2.1 τ [zz_oc U ad x3.2.2])) rfl ?_
  refine zz_callV1 (As := [.int x5]) (rest := []) C 47 (mX8_parcel τ x5 x7 h8) dL_law_1414 rfl rfl rfl zwl_70 zy_X8_parcel rfl (by decide) (by decide) (Nat.le_of_ble_eq_true rfl) (by omega) (by omega) rfl ?_
  refine zz_ren (ws' := (zz_wl U ad x3.2.1 x7.2 x3.2.2)) rfl ?_
  refine zz_istore C dL_law_1417 (by decide) (lv' := [(6, .int x7.1), (5, .int x3.1), (0, .ref b), (1, .ref (ad 0)), (2, .ref (ad 47)), (3, .ref (ad 62)), (4, .int i_)]) rfl ?_
  refine zz_aload_n C 4 dL_law_1419 rfl rfl ?_
  obtain ⟨x9, h10, hf⟩ := zz_bind hf
  refine zz_ren (ws' := (zz_wm U ad x3.2.1 x7.2 [zz_oc U ad x3.2.2])) rfl ?_
  refine zz_callV1 (As := []) (rest := []) C 47 (mX8_thrown x7.2 x9 h10) dL_law_1420 rfl rfl rfl zwl_27 zy_X8_thrown rfl (by decide) (by decide) (Nat.le_of_ble_eq_true rfl) (by omega) (by omega) rfl ?_
  refine zz_ren (ws' := (zz_wl U ad x3.2.1 x7.2 x3.2.2)) rfl ?_
  refine zz_iload C 1 dL_law_1423 rfl ?_
  refine zz_icmp_eq (tgt := 1430) C dL_law_1425 (by decide) (fun g11 => ?_) (fun g11 => ?_)
  · rw [if_pos g11] at hf
    obtain ⟨b12, h13, hf⟩ := zz_bind hf
    refine zz_cutI (P := b12 = true) 1445 [(6, .int x7.1), (5, .int x3.1), (0, .ref b), (1, .ref (ad 0)), (2, .ref (ad 47)), (3, .ref (ad 62)), (4, .int i_)] [] (zz_wl U ad x3.2.1 x7.2 x3.2.2) (fun g16 => ?_) (fun J14 => ?_)
    · rw [if_pos g16] at hf
      cases hf
    refine zz_cutI (P := b12 = false) 1447 [(6, .int x7.1), (5, .int x3.1), (0, .ref b), (1, .ref (ad 0)), (2, .ref (ad 47)), (3, .ref (ad 62)), (4, .int i_)] [] (zz_wl U ad x3.2.1 x7.2 x3.2.2) (fun g16 => ?_) (fun J15 => ?_)
    · rw [if_neg (show ¬ b12 = true by rw [g16]; decide)] at hf
      refine zz_goto (tgt := 1867) C dL_law_1447 (by decide) ?_
      refine zz_sub [2, 3, 4, 5, 6] rfl ?_
      cases hf
      refine zz_widen (k := cells + 8) (n := slots + 48) (by omega) (by omega) ?_
      exact k
    refine zz_iload C 1 dL_law_1430 rfl ?_
    refine zz_if_ne (tgt := 1447) C dL_law_1432 (by decide) (fun g17 => ?_) (fun g17 => ?_)
    · rw [if_neg g17] at h13
      cases h13
      exact J15 rfl
    · rw [if_pos g17] at h13
      refine zz_aload_n C 5 dL_law_1435 rfl rfl ?_
      refine zz_iconst (v := (0 : Int32)) C dL_law_1436 (by decide) ?_
      refine zz_lout C dL_law_1437 ?_
      refine zz_iload C 0 dL_law_1438 rfl ?_
      refine zz_i2l C dL_law_1440 ?_
      obtain ⟨x18, h19, h13⟩ := zz_bind h13
      refine zz_lcmp C dL_law_1441 ?_
      refine zz_topi (Option.some.inj h19) ?_
      refine zz_if_eq (tgt := 1447) C dL_law_1442 (by decide) (fun g20 => ?_) (fun g20 => ?_)
      · rw [if_pos g20] at h13
        cases h13
        exact J15 rfl
      · rw [if_neg g20] at h13
        cases h13
        exact J14 rfl
  · rw [if_neg g11] at hf
    cases hf
set_option maxHeartbeats 4000000 in
set_option maxRecDepth 100000 in
theorem mL_c22 {p : Program} {l : Launch} {e : Env} {R : Room} {s : State} {m : MethodId} {args : Array Value} {below : List Frame} {meth : Method} {c : Code} {Q : State → Prop} {D : va_G} {U : zz_U} {A : Nat → Prop} {cells slots : Nat} {ad : Nat → Nat} {ret : Option FieldType} {b L : Nat} {xs : Nat → Int32} (C : zz_C p l R s m meth c D U A RL code 9 ret [] 12) (hX : va_X b L xs s s.heap) (hbl : b < s.heap.size) (hbA : ¬ A b) (hcR : cells + 8 ≤ R.cells) (hsR : slots + 48 ≤ R.slots) (i_ : Int32) (σ τ : zz_St) (o : Nat → Int64) (r : zz_LS) (hf : fL_c22 xs L i_ σ τ o = some (some r)) (k : zz_Z p l e R s m args below meth c Q D A 9 (cells + 8) (slots + 48) (zz_wl U ad r.1 r.2.1 r.2.2) 1867 [(0, .ref b), (1, .ref (ad 0)), (2, .ref (ad 47)), (3, .ref (ad 62)), (4, .int i_)] []) : zz_Z p l e R s m args below meth c Q D A 9 cells slots (zz_wl U ad σ τ o) 1450 [(0, .ref b), (1, .ref (ad 0)), (2, .ref (ad 47)), (3, .ref (ad 62)), (4, .int i_)] [] := by
  unfold fL_c22 at hf
  refine zz_aload_n C 1 dL_law_1450 rfl rfl ?_
  refine zz_aload_n C 0 dL_law_1451 rfl rfl ?_
  refine zz_iload C 4 dL_law_1452 rfl ?_
  refine zz_iconst (v := (1 : Int32)) C dL_law_1454 (by decide) ?_
  refine zz_iadd C dL_law_1455 ?_
  obtain ⟨x1, h2, hf⟩ := zz_bind hf
  refine zz_sld C hX hbl hbA dL_law_1456 h2 ?_
  refine zz_aload_n C 3 dL_law_1457 rfl rfl ?_
  obtain ⟨x3, h4, hf⟩ := zz_bind hf
  refine zz_callSH1 (As := [.ref (ad 0), .int x1, .ref (ad 62)]) (rest := []) C (mL_parcelOf σ τ o x1 x3 h4) dL_law_1458 rfl zwl_73 zy_L_parcelOf rfl (by decide) (by decide) (Nat.le_of_ble_eq_true rfl) (by omega) (by omega) rfl ?_
  refine zz_istore C dL_law_1461 (by decide) (lv' := [(5, .int x3.1), (0, .ref b), (1, .ref (ad 0)), (2, .ref (ad 47)), (3, .ref (ad 62)), (4, .int i_)]) rfl ?_
  refine zz_aload_n C 3 dL_law_1463 rfl rfl ?_
  refine zz_aload_n C 1 dL_law_1464 rfl rfl ?_
  refine zz_iload C 5 dL_law_1465 rfl ?_
  refine zz_iconst (v := (1 : Int32)) C dL_law_1467 (by decide) ?_
  refine zz_iadd C dL_law_1468 ?_
  obtain ⟨x5, h6, hf⟩ := zz_bind hf
  refine zz_sld C hX hbl hbA dL_law_1469 h6 ?_
  obtain ⟨x7, h8, hf⟩ := zz_bind hf
  refine zz_ren (ws' := (zz_wm U ad x3.2.1 τ [zz_oc U ad x3.2.2])) rfl ?_
  refine zz_callV1 (As := [.int x5]) (rest := []) C 47 (mX8_parcelOf τ x5 x7 h8) dL_law_1470 rfl rfl rfl zwl_72 zy_X8_parcelOf rfl (by decide) (by decide) (Nat.le_of_ble_eq_true rfl) (by omega) (by omega) rfl ?_
  refine zz_ren (ws' := (zz_wl U ad x3.2.1 x7.2 x3.2.2)) rfl ?_
  refine zz_istore C dL_law_1473 (by decide) (lv' := [(6, .int x7.1), (5, .int x3.1), (0, .ref b), (1, .ref (ad 0)), (2, .ref (ad 47)), (3, .ref (ad 62)), (4, .int i_)]) rfl ?_
  refine zz_aload_n C 4 dL_law_1475 rfl rfl ?_
  obtain ⟨x9, h10, hf⟩ := zz_bind hf
  refine zz_ren (ws' := (zz_wm U ad x3.2.1 x7.2 [zz_oc U ad x3.2.2])) rfl ?_
  refine zz_callV1 (As := []) (rest := []) C 47 (mX8_thrown x7.2 x9 h10) dL_law_1476 rfl rfl rfl zwl_27 zy_X8_thrown rfl (by decide) (by decide) (Nat.le_of_ble_eq_true rfl) (by omega) (by omega) rfl ?_
  refine zz_ren (ws' := (zz_wl U ad x3.2.1 x7.2 x3.2.2)) rfl ?_
  refine zz_iload C 1 dL_law_1479 rfl ?_
  refine zz_icmp_eq (tgt := 1486) C dL_law_1481 (by decide) (fun g11 => ?_) (fun g11 => ?_)
  · rw [if_pos g11] at hf
    obtain ⟨b12, h13, hf⟩ := zz_bind hf
    refine zz_cutI (P := b12 = true) 1501 [(6, .int x7.1), (5, .int x3.1), (0, .ref b), (1, .ref (ad 0)), (2, .ref (ad 47)), (3, .ref (ad 62)), (4, .int i_)] [] (zz_wl U ad x3.2.1 x7.2 x3.2.2) (fun g16 => ?_) (fun J14 => ?_)
    · rw [if_pos g16] at hf
      cases hf
    refine zz_cutI (P := b12 = false) 1503 [(6, .int x7.1), (5, .int x3.1), (0, .ref b), (1, .ref (ad 0)), (2, .ref (ad 47)), (3, .ref (ad 62)), (4, .int i_)] [] (zz_wl U ad x3.2.1 x7.2 x3.2.2) (fun g16 => ?_) (fun J15 => ?_)
    · rw [if_neg (show ¬ b12 = true by rw [g16]; decide)] at hf
      refine zz_goto (tgt := 1867) C dL_law_1503 (by decide) ?_
      refine zz_sub [2, 3, 4, 5, 6] rfl ?_
      cases hf
      refine zz_widen (k := cells + 8) (n := slots + 48) (by omega) (by omega) ?_
      exact k
    refine zz_iload C 1 dL_law_1486 rfl ?_
    refine zz_if_ne (tgt := 1503) C dL_law_1488 (by decide) (fun g17 => ?_) (fun g17 => ?_)
    · rw [if_neg g17] at h13
      cases h13
      exact J15 rfl
    · rw [if_pos g17] at h13
      refine zz_aload_n C 5 dL_law_1491 rfl rfl ?_
      refine zz_iconst (v := (0 : Int32)) C dL_law_1492 (by decide) ?_
      refine zz_lout C dL_law_1493 ?_
      refine zz_iload C 0 dL_law_1494 rfl ?_
      refine zz_i2l C dL_law_1496 ?_
      obtain ⟨x18, h19, h13⟩ := zz_bind h13
      refine zz_lcmp C dL_law_1497 ?_
      refine zz_topi (Option.some.inj h19) ?_
      refine zz_if_eq (tgt := 1503) C dL_law_1498 (by decide) (fun g20 => ?_) (fun g20 => ?_)
      · rw [if_pos g20] at h13
        cases h13
        exact J15 rfl
      · rw [if_neg g20] at h13
        cases h13
        exact J14 rfl
  · rw [if_neg g11] at hf
    cases hf
set_option maxHeartbeats 4000000 in
set_option maxRecDepth 100000 in
theorem mL_c23 {p : Program} {l : Launch} {e : Env} {R : Room} {s : State} {m : MethodId} {args : Array Value} {below : List Frame} {meth : Method} {c : Code} {Q : State → Prop} {D : va_G} {U : zz_U} {A : Nat → Prop} {cells slots : Nat} {ad : Nat → Nat} {ret : Option FieldType} {b L : Nat} {xs : Nat → Int32} (C : zz_C p l R s m meth c D U A RL code 9 ret [] 12) (hX : va_X b L xs s s.heap) (hbl : b < s.heap.size) (hbA : ¬ A b) (hcR : cells + 8 ≤ R.cells) (hsR : slots + 48 ≤ R.slots) (i_ : Int32) (σ τ : zz_St) (o : Nat → Int64) (r : zz_LS) (hf : fL_c23 xs L i_ σ τ o = some (some r)) (k : zz_Z p l e R s m args below meth c Q D A 9 (cells + 8) (slots + 48) (zz_wl U ad r.1 r.2.1 r.2.2) 1867 [(0, .ref b), (1, .ref (ad 0)), (2, .ref (ad 47)), (3, .ref (ad 62)), (4, .int i_)] []) : zz_Z p l e R s m args below meth c Q D A 9 cells slots (zz_wl U ad σ τ o) 1506 [(0, .ref b), (1, .ref (ad 0)), (2, .ref (ad 47)), (3, .ref (ad 62)), (4, .int i_)] [] := by
  unfold fL_c23 at hf
  refine zz_aload_n C 1 dL_law_1506 rfl rfl ?_
  obtain ⟨x1, h2, hf⟩ := zz_bind hf
  refine zz_ren (ws' := (zz_wc U ad σ (zz_cm U ad τ ++ [zz_oc U ad o]))) rfl ?_
  refine zz_callV1 (As := []) (rest := []) C 0 (mX7_knots σ x1 h2) dL_law_1507 rfl rfl rfl zwl_75 zy_X7_knots rfl (by decide) (by decide) (Nat.le_of_ble_eq_true rfl) (by omega) (by omega) rfl ?_
  refine zz_ren (ws' := (zz_wl U ad x1.2 τ o)) rfl ?_
  refine zz_aload_n C 2 dL_law_1510 rfl rfl ?_
  obtain ⟨x3, h4, hf⟩ := zz_bind hf
  refine zz_ren (ws' := (zz_wm U ad x1.2 τ [zz_oc U ad o])) rfl ?_
  refine zz_callV1 (As := []) (rest := [.int x1.1]) C 47 (mX8_knots τ x3 h4) dL_law_1511 rfl rfl rfl zwl_74 zy_X8_knots rfl (by decide) (by decide) (Nat.le_of_ble_eq_true rfl) (by omega) (by omega) rfl ?_
  refine zz_ren (ws' := (zz_wl U ad x1.2 x3.2 o)) rfl ?_
  refine zz_icmp_eq (tgt := 1867) C dL_law_1514 (by decide) (fun g5 => ?_) (fun g5 => ?_)
  · rw [if_pos g5] at hf
    cases hf
    refine zz_widen (k := cells + 8) (n := slots + 48) (by omega) (by omega) ?_
    exact k
  · rw [if_neg g5] at hf
    cases hf
set_option maxHeartbeats 4000000 in
set_option maxRecDepth 100000 in
theorem mL_c24 {p : Program} {l : Launch} {e : Env} {R : Room} {s : State} {m : MethodId} {args : Array Value} {below : List Frame} {meth : Method} {c : Code} {Q : State → Prop} {D : va_G} {U : zz_U} {A : Nat → Prop} {cells slots : Nat} {ad : Nat → Nat} {ret : Option FieldType} {b L : Nat} {xs : Nat → Int32} (C : zz_C p l R s m meth c D U A RL code 9 ret [] 12) (hX : va_X b L xs s s.heap) (hbl : b < s.heap.size) (hbA : ¬ A b) (hcR : cells + 8 ≤ R.cells) (hsR : slots + 48 ≤ R.slots) (i_ : Int32) (σ τ : zz_St) (o : Nat → Int64) (r : zz_LS) (hf : fL_c24 xs L i_ σ τ o = some (some r)) (k : zz_Z p l e R s m args below meth c Q D A 9 (cells + 8) (slots + 48) (zz_wl U ad r.1 r.2.1 r.2.2) 1867 [(0, .ref b), (1, .ref (ad 0)), (2, .ref (ad 47)), (3, .ref (ad 62)), (4, .int i_)] []) : zz_Z p l e R s m args below meth c Q D A 9 cells slots (zz_wl U ad σ τ o) 1519 [(0, .ref b), (1, .ref (ad 0)), (2, .ref (ad 47)), (3, .ref (ad 62)), (4, .int i_)] [] := by
  unfold fL_c24 at hf
  refine zz_aload_n C 1 dL_law_1519 rfl rfl ?_
  refine zz_aload_n C 0 dL_law_1520 rfl rfl ?_
  refine zz_iload C 4 dL_law_1521 rfl ?_
  refine zz_iconst (v := (1 : Int32)) C dL_law_1523 (by decide) ?_
  refine zz_iadd C dL_law_1524 ?_
  obtain ⟨x1, h2, hf⟩ := zz_bind hf
  refine zz_sld C hX hbl hbA dL_law_1525 h2 ?_
  refine zz_aload_n C 3 dL_law_1526 rfl rfl ?_
  obtain ⟨x3, h4, hf⟩ := zz_bind hf
  refine zz_callSH1 (As := [.ref (ad 0), .int x1, .ref (ad 62)]) (rest := []) C (mL_lines σ τ o x1 x3 h4) dL_law_1527 rfl zwl_77 zy_L_lines rfl (by decide) (by decide) (Nat.le_of_ble_eq_true rfl) (by omega) (by omega) rfl ?_
  refine zz_istore C dL_law_1530 (by decide) (lv' := [(5, .int x3.1), (0, .ref b), (1, .ref (ad 0)), (2, .ref (ad 47)), (3, .ref (ad 62)), (4, .int i_)]) rfl ?_
  refine zz_aload_n C 3 dL_law_1532 rfl rfl ?_
  refine zz_aload_n C 1 dL_law_1533 rfl rfl ?_
  refine zz_iload C 5 dL_law_1534 rfl ?_
  refine zz_iconst (v := (1 : Int32)) C dL_law_1536 (by decide) ?_
  refine zz_iadd C dL_law_1537 ?_
  obtain ⟨x5, h6, hf⟩ := zz_bind hf
  refine zz_sld C hX hbl hbA dL_law_1538 h6 ?_
  obtain ⟨x7, h8, hf⟩ := zz_bind hf
  refine zz_ren (ws' := (zz_wm U ad x3.2.1 τ [zz_oc U ad x3.2.2])) rfl ?_
  refine zz_callV1 (As := [.int x5]) (rest := []) C 47 (mX8_lines τ x5 x7 h8) dL_law_1539 rfl rfl rfl zwl_76 zy_X8_lines rfl (by decide) (by decide) (Nat.le_of_ble_eq_true rfl) (by omega) (by omega) rfl ?_
  refine zz_ren (ws' := (zz_wl U ad x3.2.1 x7.2 x3.2.2)) rfl ?_
  refine zz_istore C dL_law_1542 (by decide) (lv' := [(6, .int x7.1), (5, .int x3.1), (0, .ref b), (1, .ref (ad 0)), (2, .ref (ad 47)), (3, .ref (ad 62)), (4, .int i_)]) rfl ?_
  refine zz_aload_n C 4 dL_law_1544 rfl rfl ?_
  obtain ⟨x9, h10, hf⟩ := zz_bind hf
  refine zz_ren (ws' := (zz_wm U ad x3.2.1 x7.2 [zz_oc U ad x3.2.2])) rfl ?_
  refine zz_callV1 (As := []) (rest := []) C 47 (mX8_thrown x7.2 x9 h10) dL_law_1545 rfl rfl rfl zwl_27 zy_X8_thrown rfl (by decide) (by decide) (Nat.le_of_ble_eq_true rfl) (by omega) (by omega) rfl ?_
  refine zz_ren (ws' := (zz_wl U ad x3.2.1 x7.2 x3.2.2)) rfl ?_
  refine zz_iload C 1 dL_law_1548 rfl ?_
  refine zz_icmp_eq (tgt := 1555) C dL_law_1550 (by decide) (fun g11 => ?_) (fun g11 => ?_)
  · rw [if_pos g11] at hf
    obtain ⟨b12, h13, hf⟩ := zz_bind hf
    refine zz_cutI (P := b12 = true) 1570 [(6, .int x7.1), (5, .int x3.1), (0, .ref b), (1, .ref (ad 0)), (2, .ref (ad 47)), (3, .ref (ad 62)), (4, .int i_)] [] (zz_wl U ad x3.2.1 x7.2 x3.2.2) (fun g16 => ?_) (fun J14 => ?_)
    · rw [if_pos g16] at hf
      cases hf
    refine zz_cutI (P := b12 = false) 1572 [(6, .int x7.1), (5, .int x3.1), (0, .ref b), (1, .ref (ad 0)), (2, .ref (ad 47)), (3, .ref (ad 62)), (4, .int i_)] [] (zz_wl U ad x3.2.1 x7.2 x3.2.2) (fun g16 => ?_) (fun J15 => ?_)
    · rw [if_neg (show ¬ b12 = true by rw [g16]; decide)] at hf
      refine zz_goto (tgt := 1867) C dL_law_1572 (by decide) ?_
      refine zz_sub [2, 3, 4, 5, 6] rfl ?_
      cases hf
      refine zz_widen (k := cells + 8) (n := slots + 48) (by omega) (by omega) ?_
      exact k
    refine zz_iload C 1 dL_law_1555 rfl ?_
    refine zz_if_ne (tgt := 1572) C dL_law_1557 (by decide) (fun g17 => ?_) (fun g17 => ?_)
    · rw [if_neg g17] at h13
      cases h13
      exact J15 rfl
    · rw [if_pos g17] at h13
      refine zz_aload_n C 5 dL_law_1560 rfl rfl ?_
      refine zz_iconst (v := (0 : Int32)) C dL_law_1561 (by decide) ?_
      refine zz_lout C dL_law_1562 ?_
      refine zz_iload C 0 dL_law_1563 rfl ?_
      refine zz_i2l C dL_law_1565 ?_
      obtain ⟨x18, h19, h13⟩ := zz_bind h13
      refine zz_lcmp C dL_law_1566 ?_
      refine zz_topi (Option.some.inj h19) ?_
      refine zz_if_eq (tgt := 1572) C dL_law_1567 (by decide) (fun g20 => ?_) (fun g20 => ?_)
      · rw [if_pos g20] at h13
        cases h13
        exact J15 rfl
      · rw [if_neg g20] at h13
        cases h13
        exact J14 rfl
  · rw [if_neg g11] at hf
    cases hf
set_option maxHeartbeats 4000000 in
set_option maxRecDepth 100000 in
theorem mL_c25 {p : Program} {l : Launch} {e : Env} {R : Room} {s : State} {m : MethodId} {args : Array Value} {below : List Frame} {meth : Method} {c : Code} {Q : State → Prop} {D : va_G} {U : zz_U} {A : Nat → Prop} {cells slots : Nat} {ad : Nat → Nat} {ret : Option FieldType} {b L : Nat} {xs : Nat → Int32} (C : zz_C p l R s m meth c D U A RL code 9 ret [] 12) (hX : va_X b L xs s s.heap) (hbl : b < s.heap.size) (hbA : ¬ A b) (hcR : cells + 8 ≤ R.cells) (hsR : slots + 48 ≤ R.slots) (i_ : Int32) (σ τ : zz_St) (o : Nat → Int64) (r : zz_LS) (hf : fL_c25 xs L i_ σ τ o = some (some r)) (k : zz_Z p l e R s m args below meth c Q D A 9 (cells + 8) (slots + 48) (zz_wl U ad r.1 r.2.1 r.2.2) 1867 [(0, .ref b), (1, .ref (ad 0)), (2, .ref (ad 47)), (3, .ref (ad 62)), (4, .int i_)] []) : zz_Z p l e R s m args below meth c Q D A 9 cells slots (zz_wl U ad σ τ o) 1575 [(0, .ref b), (1, .ref (ad 0)), (2, .ref (ad 47)), (3, .ref (ad 62)), (4, .int i_)] [] := by
  unfold fL_c25 at hf
  refine zz_aload_n C 1 dL_law_1575 rfl rfl ?_
  refine zz_aload_n C 0 dL_law_1576 rfl rfl ?_
  refine zz_iload C 4 dL_law_1577 rfl ?_
  refine zz_iconst (v := (1 : Int32)) C dL_law_1579 (by decide) ?_
  refine zz_iadd C dL_law_1580 ?_
  obtain ⟨x1, h2, hf⟩ := zz_bind hf
  refine zz_sld C hX hbl hbA dL_law_1581 h2 ?_
  refine zz_aload_n C 3 dL_law_1582 rfl rfl ?_
  obtain ⟨x3, h4, hf⟩ := zz_bind hf
  refine zz_callSH1 (As := [.ref (ad 0), .int x1, .ref (ad 62)]) (rest := []) C (mL_broken σ τ o x1 x3 h4) dL_law_1583 rfl zwl_79 zy_L_broken rfl (by decide) (by decide) (Nat.le_of_ble_eq_true rfl) (by omega) (by omega) rfl ?_
  refine zz_istore C dL_law_1586 (by decide) (lv' := [(5, .int x3.1), (0, .ref b), (1, .ref (ad 0)), (2, .ref (ad 47)), (3, .ref (ad 62)), (4, .int i_)]) rfl ?_
  refine zz_aload_n C 3 dL_law_1588 rfl rfl ?_
  refine zz_aload_n C 1 dL_law_1589 rfl rfl ?_
  refine zz_iload C 5 dL_law_1590 rfl ?_
  refine zz_iconst (v := (1 : Int32)) C dL_law_1592 (by decide) ?_
  refine zz_iadd C dL_law_1593 ?_
  obtain ⟨x5, h6, hf⟩ := zz_bind hf
  refine zz_sld C hX hbl hbA dL_law_1594 h6 ?_
  obtain ⟨x7, h8, hf⟩ := zz_bind hf
  refine zz_ren (ws' := (zz_wm U ad x3.2.1 τ [zz_oc U ad x3.2.2])) rfl ?_
  refine zz_callV1 (As := [.int x5]) (rest := []) C 47 (mX8_broken τ x5 x7 h8) dL_law_1595 rfl rfl rfl zwl_78 zy_X8_broken rfl (by decide) (by decide) (Nat.le_of_ble_eq_true rfl) (by omega) (by omega) rfl ?_
  refine zz_ren (ws' := (zz_wl U ad x3.2.1 x7.2 x3.2.2)) rfl ?_
  refine zz_istore C dL_law_1598 (by decide) (lv' := [(6, .int x7.1), (5, .int x3.1), (0, .ref b), (1, .ref (ad 0)), (2, .ref (ad 47)), (3, .ref (ad 62)), (4, .int i_)]) rfl ?_
  refine zz_aload_n C 4 dL_law_1600 rfl rfl ?_
  obtain ⟨x9, h10, hf⟩ := zz_bind hf
  refine zz_ren (ws' := (zz_wm U ad x3.2.1 x7.2 [zz_oc U ad x3.2.2])) rfl ?_
  refine zz_callV1 (As := []) (rest := []) C 47 (mX8_thrown x7.2 x9 h10) dL_law_1601 rfl rfl rfl zwl_27 zy_X8_thrown rfl (by decide) (by decide) (Nat.le_of_ble_eq_true rfl) (by omega) (by omega) rfl ?_
  refine zz_ren (ws' := (zz_wl U ad x3.2.1 x7.2 x3.2.2)) rfl ?_
  refine zz_iload C 1 dL_law_1604 rfl ?_
  refine zz_icmp_eq (tgt := 1611) C dL_law_1606 (by decide) (fun g11 => ?_) (fun g11 => ?_)
  · rw [if_pos g11] at hf
    obtain ⟨b12, h13, hf⟩ := zz_bind hf
    refine zz_cutI (P := b12 = true) 1626 [(6, .int x7.1), (5, .int x3.1), (0, .ref b), (1, .ref (ad 0)), (2, .ref (ad 47)), (3, .ref (ad 62)), (4, .int i_)] [] (zz_wl U ad x3.2.1 x7.2 x3.2.2) (fun g16 => ?_) (fun J14 => ?_)
    · rw [if_pos g16] at hf
      cases hf
    refine zz_cutI (P := b12 = false) 1628 [(6, .int x7.1), (5, .int x3.1), (0, .ref b), (1, .ref (ad 0)), (2, .ref (ad 47)), (3, .ref (ad 62)), (4, .int i_)] [] (zz_wl U ad x3.2.1 x7.2 x3.2.2) (fun g16 => ?_) (fun J15 => ?_)
    · rw [if_neg (show ¬ b12 = true by rw [g16]; decide)] at hf
      refine zz_goto (tgt := 1867) C dL_law_1628 (by decide) ?_
      refine zz_sub [2, 3, 4, 5, 6] rfl ?_
      cases hf
      refine zz_widen (k := cells + 8) (n := slots + 48) (by omega) (by omega) ?_
      exact k
    refine zz_iload C 1 dL_law_1611 rfl ?_
    refine zz_if_ne (tgt := 1628) C dL_law_1613 (by decide) (fun g17 => ?_) (fun g17 => ?_)
    · rw [if_neg g17] at h13
      cases h13
      exact J15 rfl
    · rw [if_pos g17] at h13
      refine zz_aload_n C 5 dL_law_1616 rfl rfl ?_
      refine zz_iconst (v := (0 : Int32)) C dL_law_1617 (by decide) ?_
      refine zz_lout C dL_law_1618 ?_
      refine zz_iload C 0 dL_law_1619 rfl ?_
      refine zz_i2l C dL_law_1621 ?_
      obtain ⟨x18, h19, h13⟩ := zz_bind h13
      refine zz_lcmp C dL_law_1622 ?_
      refine zz_topi (Option.some.inj h19) ?_
      refine zz_if_eq (tgt := 1628) C dL_law_1623 (by decide) (fun g20 => ?_) (fun g20 => ?_)
      · rw [if_pos g20] at h13
        cases h13
        exact J15 rfl
      · rw [if_neg g20] at h13
        cases h13
        exact J14 rfl
  · rw [if_neg g11] at hf
    cases hf
set_option maxHeartbeats 4000000 in
set_option maxRecDepth 100000 in
theorem mL_c26 {p : Program} {l : Launch} {e : Env} {R : Room} {s : State} {m : MethodId} {args : Array Value} {below : List Frame} {meth : Method} {c : Code} {Q : State → Prop} {D : va_G} {U : zz_U} {A : Nat → Prop} {cells slots : Nat} {ad : Nat → Nat} {ret : Option FieldType} {b L : Nat} {xs : Nat → Int32} (C : zz_C p l R s m meth c D U A RL code 9 ret [] 12) (hX : va_X b L xs s s.heap) (hbl : b < s.heap.size) (hbA : ¬ A b) (hcR : cells + 8 ≤ R.cells) (hsR : slots + 48 ≤ R.slots) (i_ : Int32) (σ τ : zz_St) (o : Nat → Int64) (r : zz_LS) (hf : fL_c26 xs L i_ σ τ o = some (some r)) (k : zz_Z p l e R s m args below meth c Q D A 9 (cells + 8) (slots + 48) (zz_wl U ad r.1 r.2.1 r.2.2) 1867 [(0, .ref b), (1, .ref (ad 0)), (2, .ref (ad 47)), (3, .ref (ad 62)), (4, .int i_)] []) : zz_Z p l e R s m args below meth c Q D A 9 cells slots (zz_wl U ad σ τ o) 1631 [(0, .ref b), (1, .ref (ad 0)), (2, .ref (ad 47)), (3, .ref (ad 62)), (4, .int i_)] [] := by
  unfold fL_c26 at hf
  refine zz_aload_n C 1 dL_law_1631 rfl rfl ?_
  obtain ⟨x1, h2, hf⟩ := zz_bind hf
  refine zz_ren (ws' := (zz_wc U ad σ (zz_cm U ad τ ++ [zz_oc U ad o]))) rfl ?_
  refine zz_callV1 (As := []) (rest := []) C 0 (mX7_breakage σ x1 h2) dL_law_1632 rfl rfl rfl zwl_81 zy_X7_breakage rfl (by decide) (by decide) (Nat.le_of_ble_eq_true rfl) (by omega) (by omega) rfl ?_
  refine zz_ren (ws' := (zz_wl U ad x1.2 τ o)) rfl ?_
  refine zz_aload_n C 2 dL_law_1635 rfl rfl ?_
  obtain ⟨x3, h4, hf⟩ := zz_bind hf
  refine zz_ren (ws' := (zz_wm U ad x1.2 τ [zz_oc U ad o])) rfl ?_
  refine zz_callV1 (As := []) (rest := [.int x1.1]) C 47 (mX8_breakage τ x3 h4) dL_law_1636 rfl rfl rfl zwl_80 zy_X8_breakage rfl (by decide) (by decide) (Nat.le_of_ble_eq_true rfl) (by omega) (by omega) rfl ?_
  refine zz_ren (ws' := (zz_wl U ad x1.2 x3.2 o)) rfl ?_
  refine zz_icmp_eq (tgt := 1867) C dL_law_1639 (by decide) (fun g5 => ?_) (fun g5 => ?_)
  · rw [if_pos g5] at hf
    cases hf
    refine zz_widen (k := cells + 8) (n := slots + 48) (by omega) (by omega) ?_
    exact k
  · rw [if_neg g5] at hf
    cases hf
set_option maxHeartbeats 4000000 in
set_option maxRecDepth 100000 in
theorem mL_c27 {p : Program} {l : Launch} {e : Env} {R : Room} {s : State} {m : MethodId} {args : Array Value} {below : List Frame} {meth : Method} {c : Code} {Q : State → Prop} {D : va_G} {U : zz_U} {A : Nat → Prop} {cells slots : Nat} {ad : Nat → Nat} {ret : Option FieldType} {b L : Nat} {xs : Nat → Int32} (C : zz_C p l R s m meth c D U A RL code 9 ret [] 12) (hX : va_X b L xs s s.heap) (hbl : b < s.heap.size) (hbA : ¬ A b) (hcR : cells + 8 ≤ R.cells) (hsR : slots + 48 ≤ R.slots) (i_ : Int32) (σ τ : zz_St) (o : Nat → Int64) (r : zz_LS) (hf : fL_c27 xs L i_ σ τ o = some (some r)) (k : zz_Z p l e R s m args below meth c Q D A 9 (cells + 8) (slots + 48) (zz_wl U ad r.1 r.2.1 r.2.2) 1867 [(0, .ref b), (1, .ref (ad 0)), (2, .ref (ad 47)), (3, .ref (ad 62)), (4, .int i_)] []) : zz_Z p l e R s m args below meth c Q D A 9 cells slots (zz_wl U ad σ τ o) 1644 [(0, .ref b), (1, .ref (ad 0)), (2, .ref (ad 47)), (3, .ref (ad 62)), (4, .int i_)] [] := by
  unfold fL_c27 at hf
  refine zz_aload_n C 1 dL_law_1644 rfl rfl ?_
  refine zz_aload_n C 3 dL_law_1645 rfl rfl ?_
  obtain ⟨x1, h2, hf⟩ := zz_bind hf
  refine zz_callSH1 (As := [.ref (ad 0), .ref (ad 62)]) (rest := []) C (mL_leastBreakage σ τ o x1 h2) dL_law_1646 rfl zwl_83 zy_L_leastBreakage rfl (by decide) (by decide) (Nat.le_of_ble_eq_true rfl) (by omega) (by omega) rfl ?_
  refine zz_istore C dL_law_1649 (by decide) (lv' := [(5, .int x1.1), (0, .ref b), (1, .ref (ad 0)), (2, .ref (ad 47)), (3, .ref (ad 62)), (4, .int i_)]) rfl ?_
  refine zz_aload_n C 3 dL_law_1651 rfl rfl ?_
  obtain ⟨x3, h4, hf⟩ := zz_bind hf
  refine zz_ren (ws' := (zz_wm U ad x1.2.1 τ [zz_oc U ad x1.2.2])) rfl ?_
  refine zz_callV1 (As := []) (rest := []) C 47 (mX8_leastBreakage τ x3 h4) dL_law_1652 rfl rfl rfl zwl_82 zy_X8_leastBreakage rfl (by decide) (by decide) (Nat.le_of_ble_eq_true rfl) (by omega) (by omega) rfl ?_
  refine zz_ren (ws' := (zz_wl U ad x1.2.1 x3.2 x1.2.2)) rfl ?_
  refine zz_istore C dL_law_1655 (by decide) (lv' := [(6, .int x3.1), (5, .int x1.1), (0, .ref b), (1, .ref (ad 0)), (2, .ref (ad 47)), (3, .ref (ad 62)), (4, .int i_)]) rfl ?_
  refine zz_aload_n C 4 dL_law_1657 rfl rfl ?_
  obtain ⟨x5, h6, hf⟩ := zz_bind hf
  refine zz_ren (ws' := (zz_wm U ad x1.2.1 x3.2 [zz_oc U ad x1.2.2])) rfl ?_
  refine zz_callV1 (As := []) (rest := []) C 47 (mX8_thrown x3.2 x5 h6) dL_law_1658 rfl rfl rfl zwl_27 zy_X8_thrown rfl (by decide) (by decide) (Nat.le_of_ble_eq_true rfl) (by omega) (by omega) rfl ?_
  refine zz_ren (ws' := (zz_wl U ad x1.2.1 x3.2 x1.2.2)) rfl ?_
  refine zz_iload C 1 dL_law_1661 rfl ?_
  refine zz_icmp_eq (tgt := 1668) C dL_law_1663 (by decide) (fun g7 => ?_) (fun g7 => ?_)
  · rw [if_pos g7] at hf
    obtain ⟨b8, h9, hf⟩ := zz_bind hf
    refine zz_cutI (P := b8 = true) 1683 [(6, .int x3.1), (5, .int x1.1), (0, .ref b), (1, .ref (ad 0)), (2, .ref (ad 47)), (3, .ref (ad 62)), (4, .int i_)] [] (zz_wl U ad x1.2.1 x3.2 x1.2.2) (fun g12 => ?_) (fun J10 => ?_)
    · rw [if_pos g12] at hf
      cases hf
    refine zz_cutI (P := b8 = false) 1685 [(6, .int x3.1), (5, .int x1.1), (0, .ref b), (1, .ref (ad 0)), (2, .ref (ad 47)), (3, .ref (ad 62)), (4, .int i_)] [] (zz_wl U ad x1.2.1 x3.2 x1.2.2) (fun g12 => ?_) (fun J11 => ?_)
    · rw [if_neg (show ¬ b8 = true by rw [g12]; decide)] at hf
      refine zz_goto (tgt := 1867) C dL_law_1685 (by decide) ?_
      refine zz_sub [2, 3, 4, 5, 6] rfl ?_
      cases hf
      refine zz_widen (k := cells + 8) (n := slots + 48) (by omega) (by omega) ?_
      exact k
    refine zz_iload C 1 dL_law_1668 rfl ?_
    refine zz_if_ne (tgt := 1685) C dL_law_1670 (by decide) (fun g13 => ?_) (fun g13 => ?_)
    · rw [if_neg g13] at h9
      cases h9
      exact J11 rfl
    · rw [if_pos g13] at h9
      refine zz_aload_n C 5 dL_law_1673 rfl rfl ?_
      refine zz_iconst (v := (0 : Int32)) C dL_law_1674 (by decide) ?_
      refine zz_lout C dL_law_1675 ?_
      refine zz_iload C 0 dL_law_1676 rfl ?_
      refine zz_i2l C dL_law_1678 ?_
      obtain ⟨x14, h15, h9⟩ := zz_bind h9
      refine zz_lcmp C dL_law_1679 ?_
      refine zz_topi (Option.some.inj h15) ?_
      refine zz_if_eq (tgt := 1685) C dL_law_1680 (by decide) (fun g16 => ?_) (fun g16 => ?_)
      · rw [if_pos g16] at h9
        cases h9
        exact J11 rfl
      · rw [if_neg g16] at h9
        cases h9
        exact J10 rfl
  · rw [if_neg g7] at hf
    cases hf
set_option maxHeartbeats 4000000 in
set_option maxRecDepth 100000 in
theorem mL_c28 {p : Program} {l : Launch} {e : Env} {R : Room} {s : State} {m : MethodId} {args : Array Value} {below : List Frame} {meth : Method} {c : Code} {Q : State → Prop} {D : va_G} {U : zz_U} {A : Nat → Prop} {cells slots : Nat} {ad : Nat → Nat} {ret : Option FieldType} {b L : Nat} {xs : Nat → Int32} (C : zz_C p l R s m meth c D U A RL code 9 ret [] 12) (hX : va_X b L xs s s.heap) (hbl : b < s.heap.size) (hbA : ¬ A b) (hcR : cells + 8 ≤ R.cells) (hsR : slots + 48 ≤ R.slots) (i_ : Int32) (σ τ : zz_St) (o : Nat → Int64) (r : zz_LS) (hf : fL_c28 xs L i_ σ τ o = some (some r)) (k : zz_Z p l e R s m args below meth c Q D A 9 (cells + 8) (slots + 48) (zz_wl U ad r.1 r.2.1 r.2.2) 1867 [(0, .ref b), (1, .ref (ad 0)), (2, .ref (ad 47)), (3, .ref (ad 62)), (4, .int i_)] []) : zz_Z p l e R s m args below meth c Q D A 9 cells slots (zz_wl U ad σ τ o) 1688 [(0, .ref b), (1, .ref (ad 0)), (2, .ref (ad 47)), (3, .ref (ad 62)), (4, .int i_)] [] := by
  unfold fL_c28 at hf
  refine zz_aload_n C 1 dL_law_1688 rfl rfl ?_
  refine zz_aload_n C 0 dL_law_1689 rfl rfl ?_
  refine zz_iload C 4 dL_law_1690 rfl ?_
  refine zz_iconst (v := (1 : Int32)) C dL_law_1692 (by decide) ?_
  refine zz_iadd C dL_law_1693 ?_
  obtain ⟨x1, h2, hf⟩ := zz_bind hf
  refine zz_sld C hX hbl hbA dL_law_1694 h2 ?_
  refine zz_aload_n C 3 dL_law_1695 rfl rfl ?_
  obtain ⟨x3, h4, hf⟩ := zz_bind hf
  refine zz_callSH1 (As := [.ref (ad 0), .int x1, .ref (ad 62)]) (rest := []) C (mL_best σ τ o x1 x3 h4) dL_law_1696 rfl zwl_85 zy_L_best rfl (by decide) (by decide) (Nat.le_of_ble_eq_true rfl) (by omega) (by omega) rfl ?_
  refine zz_istore C dL_law_1699 (by decide) (lv' := [(5, .int x3.1), (0, .ref b), (1, .ref (ad 0)), (2, .ref (ad 47)), (3, .ref (ad 62)), (4, .int i_)]) rfl ?_
  refine zz_aload_n C 3 dL_law_1701 rfl rfl ?_
  refine zz_aload_n C 1 dL_law_1702 rfl rfl ?_
  refine zz_iload C 5 dL_law_1703 rfl ?_
  refine zz_iconst (v := (1 : Int32)) C dL_law_1705 (by decide) ?_
  refine zz_iadd C dL_law_1706 ?_
  obtain ⟨x5, h6, hf⟩ := zz_bind hf
  refine zz_sld C hX hbl hbA dL_law_1707 h6 ?_
  obtain ⟨x7, h8, hf⟩ := zz_bind hf
  refine zz_ren (ws' := (zz_wm U ad x3.2.1 τ [zz_oc U ad x3.2.2])) rfl ?_
  refine zz_callV1 (As := [.int x5]) (rest := []) C 47 (mX8_best τ x5 x7 h8) dL_law_1708 rfl rfl rfl zwl_84 zy_X8_best rfl (by decide) (by decide) (Nat.le_of_ble_eq_true rfl) (by omega) (by omega) rfl ?_
  refine zz_ren (ws' := (zz_wl U ad x3.2.1 x7.2 x3.2.2)) rfl ?_
  refine zz_istore C dL_law_1711 (by decide) (lv' := [(6, .int x7.1), (5, .int x3.1), (0, .ref b), (1, .ref (ad 0)), (2, .ref (ad 47)), (3, .ref (ad 62)), (4, .int i_)]) rfl ?_
  refine zz_aload_n C 4 dL_law_1713 rfl rfl ?_
  obtain ⟨x9, h10, hf⟩ := zz_bind hf
  refine zz_ren (ws' := (zz_wm U ad x3.2.1 x7.2 [zz_oc U ad x3.2.2])) rfl ?_
  refine zz_callV1 (As := []) (rest := []) C 47 (mX8_thrown x7.2 x9 h10) dL_law_1714 rfl rfl rfl zwl_27 zy_X8_thrown rfl (by decide) (by decide) (Nat.le_of_ble_eq_true rfl) (by omega) (by omega) rfl ?_
  refine zz_ren (ws' := (zz_wl U ad x3.2.1 x7.2 x3.2.2)) rfl ?_
  refine zz_iload C 1 dL_law_1717 rfl ?_
  refine zz_icmp_eq (tgt := 1724) C dL_law_1719 (by decide) (fun g11 => ?_) (fun g11 => ?_)
  · rw [if_pos g11] at hf
    obtain ⟨b12, h13, hf⟩ := zz_bind hf
    refine zz_cutI (P := b12 = true) 1739 [(6, .int x7.1), (5, .int x3.1), (0, .ref b), (1, .ref (ad 0)), (2, .ref (ad 47)), (3, .ref (ad 62)), (4, .int i_)] [] (zz_wl U ad x3.2.1 x7.2 x3.2.2) (fun g16 => ?_) (fun J14 => ?_)
    · rw [if_pos g16] at hf
      cases hf
    refine zz_cutI (P := b12 = false) 1741 [(6, .int x7.1), (5, .int x3.1), (0, .ref b), (1, .ref (ad 0)), (2, .ref (ad 47)), (3, .ref (ad 62)), (4, .int i_)] [] (zz_wl U ad x3.2.1 x7.2 x3.2.2) (fun g16 => ?_) (fun J15 => ?_)
    · rw [if_neg (show ¬ b12 = true by rw [g16]; decide)] at hf
      refine zz_goto (tgt := 1867) C dL_law_1741 (by decide) ?_
      refine zz_sub [2, 3, 4, 5, 6] rfl ?_
      cases hf
      refine zz_widen (k := cells + 8) (n := slots + 48) (by omega) (by omega) ?_
      exact k
    refine zz_iload C 1 dL_law_1724 rfl ?_
    refine zz_if_ne (tgt := 1741) C dL_law_1726 (by decide) (fun g17 => ?_) (fun g17 => ?_)
    · rw [if_neg g17] at h13
      cases h13
      exact J15 rfl
    · rw [if_pos g17] at h13
      refine zz_aload_n C 5 dL_law_1729 rfl rfl ?_
      refine zz_iconst (v := (0 : Int32)) C dL_law_1730 (by decide) ?_
      refine zz_lout C dL_law_1731 ?_
      refine zz_iload C 0 dL_law_1732 rfl ?_
      refine zz_i2l C dL_law_1734 ?_
      obtain ⟨x18, h19, h13⟩ := zz_bind h13
      refine zz_lcmp C dL_law_1735 ?_
      refine zz_topi (Option.some.inj h19) ?_
      refine zz_if_eq (tgt := 1741) C dL_law_1736 (by decide) (fun g20 => ?_) (fun g20 => ?_)
      · rw [if_pos g20] at h13
        cases h13
        exact J15 rfl
      · rw [if_neg g20] at h13
        cases h13
        exact J14 rfl
  · rw [if_neg g11] at hf
    cases hf
set_option maxHeartbeats 4000000 in
set_option maxRecDepth 100000 in
theorem mL_c29 {p : Program} {l : Launch} {e : Env} {R : Room} {s : State} {m : MethodId} {args : Array Value} {below : List Frame} {meth : Method} {c : Code} {Q : State → Prop} {D : va_G} {U : zz_U} {A : Nat → Prop} {cells slots : Nat} {ad : Nat → Nat} {ret : Option FieldType} {b L : Nat} {xs : Nat → Int32} (C : zz_C p l R s m meth c D U A RL code 9 ret [] 12) (hX : va_X b L xs s s.heap) (hbl : b < s.heap.size) (hbA : ¬ A b) (hcR : cells + 8 ≤ R.cells) (hsR : slots + 48 ≤ R.slots) (i_ : Int32) (σ τ : zz_St) (o : Nat → Int64) (r : zz_LS) (hf : fL_c29 xs L i_ σ τ o = some (some r)) (k : zz_Z p l e R s m args below meth c Q D A 9 (cells + 8) (slots + 48) (zz_wl U ad r.1 r.2.1 r.2.2) 1867 [(0, .ref b), (1, .ref (ad 0)), (2, .ref (ad 47)), (3, .ref (ad 62)), (4, .int i_)] []) : zz_Z p l e R s m args below meth c Q D A 9 cells slots (zz_wl U ad σ τ o) 1744 [(0, .ref b), (1, .ref (ad 0)), (2, .ref (ad 47)), (3, .ref (ad 62)), (4, .int i_)] [] := by
  unfold fL_c29 at hf
  refine zz_aload_n C 1 dL_law_1744 rfl rfl ?_
  refine zz_aload_n C 0 dL_law_1745 rfl rfl ?_
  refine zz_iload C 4 dL_law_1746 rfl ?_
  refine zz_iconst (v := (1 : Int32)) C dL_law_1748 (by decide) ?_
  refine zz_iadd C dL_law_1749 ?_
  obtain ⟨x1, h2, hf⟩ := zz_bind hf
  refine zz_sld C hX hbl hbA dL_law_1750 h2 ?_
  refine zz_aload_n C 0 dL_law_1751 rfl rfl ?_
  refine zz_iload C 4 dL_law_1752 rfl ?_
  refine zz_iconst (v := (2 : Int32)) C dL_law_1754 (by decide) ?_
  refine zz_iadd C dL_law_1755 ?_
  obtain ⟨x3, h4, hf⟩ := zz_bind hf
  refine zz_sld C hX hbl hbA dL_law_1756 h4 ?_
  refine zz_aload_n C 3 dL_law_1757 rfl rfl ?_
  obtain ⟨x5, h6, hf⟩ := zz_bind hf
  refine zz_callSH1 (As := [.ref (ad 0), .int x1, .int x3, .ref (ad 62)]) (rest := []) C (mL_setPurpose σ τ o x1 x3 x5 h6) dL_law_1758 rfl zwl_87 zy_L_setPurpose rfl (by decide) (by decide) (Nat.le_of_ble_eq_true rfl) (by omega) (by omega) rfl ?_
  refine zz_istore C dL_law_1761 (by decide) (lv' := [(5, .int x5.1), (0, .ref b), (1, .ref (ad 0)), (2, .ref (ad 47)), (3, .ref (ad 62)), (4, .int i_)]) rfl ?_
  refine zz_aload_n C 3 dL_law_1763 rfl rfl ?_
  refine zz_aload_n C 1 dL_law_1764 rfl rfl ?_
  refine zz_iload C 5 dL_law_1765 rfl ?_
  refine zz_iconst (v := (1 : Int32)) C dL_law_1767 (by decide) ?_
  refine zz_iadd C dL_law_1768 ?_
  obtain ⟨x7, h8, hf⟩ := zz_bind hf
  refine zz_sld C hX hbl hbA dL_law_1769 h8 ?_
  refine zz_aload_n C 1 dL_law_1770 rfl rfl ?_
  refine zz_iload C 5 dL_law_1771 rfl ?_
  refine zz_iconst (v := (2 : Int32)) C dL_law_1773 (by decide) ?_
  refine zz_iadd C dL_law_1774 ?_
  obtain ⟨x9, h10, hf⟩ := zz_bind hf
  refine zz_sld C hX hbl hbA dL_law_1775 h10 ?_
  obtain ⟨x11, h12, hf⟩ := zz_bind hf
  refine zz_ren (ws' := (zz_wm U ad x5.2.1 τ [zz_oc U ad x5.2.2])) rfl ?_
  refine zz_callV1 (As := [.int x7, .int x9]) (rest := []) C 47 (mX8_setPurpose τ x7 x9 x11 h12) dL_law_1776 rfl rfl rfl zwl_86 zy_X8_setPurpose rfl (by decide) (by decide) (Nat.le_of_ble_eq_true rfl) (by omega) (by omega) rfl ?_
  refine zz_ren (ws' := (zz_wl U ad x5.2.1 x11.2 x5.2.2)) rfl ?_
  refine zz_istore C dL_law_1779 (by decide) (lv' := [(6, .int x11.1), (5, .int x5.1), (0, .ref b), (1, .ref (ad 0)), (2, .ref (ad 47)), (3, .ref (ad 62)), (4, .int i_)]) rfl ?_
  refine zz_aload_n C 4 dL_law_1781 rfl rfl ?_
  obtain ⟨x13, h14, hf⟩ := zz_bind hf
  refine zz_ren (ws' := (zz_wm U ad x5.2.1 x11.2 [zz_oc U ad x5.2.2])) rfl ?_
  refine zz_callV1 (As := []) (rest := []) C 47 (mX8_thrown x11.2 x13 h14) dL_law_1782 rfl rfl rfl zwl_27 zy_X8_thrown rfl (by decide) (by decide) (Nat.le_of_ble_eq_true rfl) (by omega) (by omega) rfl ?_
  refine zz_ren (ws' := (zz_wl U ad x5.2.1 x11.2 x5.2.2)) rfl ?_
  refine zz_iload C 1 dL_law_1785 rfl ?_
  refine zz_icmp_eq (tgt := 1792) C dL_law_1787 (by decide) (fun g15 => ?_) (fun g15 => ?_)
  · rw [if_pos g15] at hf
    obtain ⟨b16, h17, hf⟩ := zz_bind hf
    refine zz_cutI (P := b16 = true) 1807 [(6, .int x11.1), (5, .int x5.1), (0, .ref b), (1, .ref (ad 0)), (2, .ref (ad 47)), (3, .ref (ad 62)), (4, .int i_)] [] (zz_wl U ad x5.2.1 x11.2 x5.2.2) (fun g20 => ?_) (fun J18 => ?_)
    · rw [if_pos g20] at hf
      cases hf
    refine zz_cutI (P := b16 = false) 1809 [(6, .int x11.1), (5, .int x5.1), (0, .ref b), (1, .ref (ad 0)), (2, .ref (ad 47)), (3, .ref (ad 62)), (4, .int i_)] [] (zz_wl U ad x5.2.1 x11.2 x5.2.2) (fun g20 => ?_) (fun J19 => ?_)
    · rw [if_neg (show ¬ b16 = true by rw [g20]; decide)] at hf
      refine zz_goto (tgt := 1867) C dL_law_1809 (by decide) ?_
      refine zz_sub [2, 3, 4, 5, 6] rfl ?_
      cases hf
      refine zz_widen (k := cells + 8) (n := slots + 48) (by omega) (by omega) ?_
      exact k
    refine zz_iload C 1 dL_law_1792 rfl ?_
    refine zz_if_ne (tgt := 1809) C dL_law_1794 (by decide) (fun g21 => ?_) (fun g21 => ?_)
    · rw [if_neg g21] at h17
      cases h17
      exact J19 rfl
    · rw [if_pos g21] at h17
      refine zz_aload_n C 5 dL_law_1797 rfl rfl ?_
      refine zz_iconst (v := (0 : Int32)) C dL_law_1798 (by decide) ?_
      refine zz_lout C dL_law_1799 ?_
      refine zz_iload C 0 dL_law_1800 rfl ?_
      refine zz_i2l C dL_law_1802 ?_
      obtain ⟨x22, h23, h17⟩ := zz_bind h17
      refine zz_lcmp C dL_law_1803 ?_
      refine zz_topi (Option.some.inj h23) ?_
      refine zz_if_eq (tgt := 1809) C dL_law_1804 (by decide) (fun g24 => ?_) (fun g24 => ?_)
      · rw [if_pos g24] at h17
        cases h17
        exact J19 rfl
      · rw [if_neg g24] at h17
        cases h17
        exact J18 rfl
  · rw [if_neg g15] at hf
    cases hf
set_option maxHeartbeats 4000000 in
set_option maxRecDepth 100000 in
theorem mL_c30 {p : Program} {l : Launch} {e : Env} {R : Room} {s : State} {m : MethodId} {args : Array Value} {below : List Frame} {meth : Method} {c : Code} {Q : State → Prop} {D : va_G} {U : zz_U} {A : Nat → Prop} {cells slots : Nat} {ad : Nat → Nat} {ret : Option FieldType} {b L : Nat} {xs : Nat → Int32} (C : zz_C p l R s m meth c D U A RL code 9 ret [] 12) (hX : va_X b L xs s s.heap) (hbl : b < s.heap.size) (hbA : ¬ A b) (hcR : cells + 8 ≤ R.cells) (hsR : slots + 48 ≤ R.slots) (i_ : Int32) (σ τ : zz_St) (o : Nat → Int64) (r : zz_LS) (hf : fL_c30 xs L i_ σ τ o = some (some r)) (k : zz_Z p l e R s m args below meth c Q D A 9 (cells + 8) (slots + 48) (zz_wl U ad r.1 r.2.1 r.2.2) 1867 [(0, .ref b), (1, .ref (ad 0)), (2, .ref (ad 47)), (3, .ref (ad 62)), (4, .int i_)] []) : zz_Z p l e R s m args below meth c Q D A 9 cells slots (zz_wl U ad σ τ o) 1812 [(0, .ref b), (1, .ref (ad 0)), (2, .ref (ad 47)), (3, .ref (ad 62)), (4, .int i_)] [] := by
  unfold fL_c30 at hf
  refine zz_aload_n C 1 dL_law_1812 rfl rfl ?_
  obtain ⟨x1, h2, hf⟩ := zz_bind hf
  refine zz_ren (ws' := (zz_wc U ad σ (zz_cm U ad τ ++ [zz_oc U ad o]))) rfl ?_
  refine zz_callV1 (As := []) (rest := []) C 0 (mX7_agreement σ x1 h2) dL_law_1813 rfl rfl rfl zwl_89 zy_X7_agreement rfl (by decide) (by decide) (Nat.le_of_ble_eq_true rfl) (by omega) (by omega) rfl ?_
  refine zz_ren (ws' := (zz_wl U ad x1.2 τ o)) rfl ?_
  refine zz_dstore C dL_law_1816 (by decide) (lv' := [(5, .double x1.1), (0, .ref b), (1, .ref (ad 0)), (2, .ref (ad 47)), (3, .ref (ad 62)), (4, .int i_)]) rfl ?_
  refine zz_aload_n C 3 dL_law_1818 rfl rfl ?_
  obtain ⟨x3, h4, hf⟩ := zz_bind hf
  refine zz_ren (ws' := (zz_wm U ad x1.2 τ [zz_oc U ad o])) rfl ?_
  refine zz_callV1 (As := []) (rest := []) C 47 (mX8_agreement τ x3 h4) dL_law_1819 rfl rfl rfl zwl_88 zy_X8_agreement rfl (by decide) (by decide) (Nat.le_of_ble_eq_true rfl) (by omega) (by omega) rfl ?_
  refine zz_ren (ws' := (zz_wl U ad x1.2 x3.2 o)) rfl ?_
  refine zz_dstore C dL_law_1822 (by decide) (lv' := [(7, .double x3.1), (5, .double x1.1), (0, .ref b), (1, .ref (ad 0)), (2, .ref (ad 47)), (3, .ref (ad 62)), (4, .int i_)]) rfl ?_
  obtain ⟨b5, h6, hf⟩ := zz_bind hf
  refine zz_cutI (P := b5 = true) 1848 [(7, .double x3.1), (5, .double x1.1), (0, .ref b), (1, .ref (ad 0)), (2, .ref (ad 47)), (3, .ref (ad 62)), (4, .int i_)] [] (zz_wl U ad x1.2 x3.2 o) (fun g9 => ?_) (fun J7 => ?_)
  · rw [if_pos g9] at hf
    cases hf
  refine zz_cutI (P := b5 = false) 1850 [(7, .double x3.1), (5, .double x1.1), (0, .ref b), (1, .ref (ad 0)), (2, .ref (ad 47)), (3, .ref (ad 62)), (4, .int i_)] [] (zz_wl U ad x1.2 x3.2 o) (fun g9 => ?_) (fun J8 => ?_)
  · rw [if_neg (show ¬ b5 = true by rw [g9]; decide)] at hf
    refine zz_goto (tgt := 1867) C dL_law_1850 (by decide) ?_
    refine zz_sub [2, 3, 4, 5, 6] rfl ?_
    cases hf
    refine zz_widen (k := cells + 8) (n := slots + 48) (by omega) (by omega) ?_
    exact k
  refine zz_dload C 1 dL_law_1824 rfl ?_
  refine zz_dload C 0 dL_law_1826 rfl ?_
  obtain ⟨x10, h11, h6⟩ := zz_bind h6
  refine zz_dcmp C dL_law_1828 ?_
  refine zz_topi (Option.some.inj h11) ?_
  refine zz_if_eq (tgt := 1850) C dL_law_1829 (by decide) (fun g12 => ?_) (fun g12 => ?_)
  · rw [if_pos g12] at h6
    cases h6
    exact J8 rfl
  · rw [if_neg g12] at h6
    refine zz_dload C 1 dL_law_1832 rfl ?_
    refine zz_dload C 1 dL_law_1834 rfl ?_
    obtain ⟨x13, h14, h6⟩ := zz_bind h6
    refine zz_dcmp C dL_law_1836 ?_
    refine zz_topi (Option.some.inj h14) ?_
    refine zz_if_eq (tgt := 1848) C dL_law_1837 (by decide) (fun g15 => ?_) (fun g15 => ?_)
    · rw [if_pos g15] at h6
      cases h6
      exact J7 rfl
    · rw [if_neg g15] at h6
      refine zz_dload C 0 dL_law_1840 rfl ?_
      refine zz_dload C 0 dL_law_1842 rfl ?_
      obtain ⟨x16, h17, h6⟩ := zz_bind h6
      refine zz_dcmp C dL_law_1844 ?_
      refine zz_topi (Option.some.inj h17) ?_
      refine zz_if_ne (tgt := 1850) C dL_law_1845 (by decide) (fun g18 => ?_) (fun g18 => ?_)
      · rw [if_neg g18] at h6
        cases h6
        exact J8 rfl
      · rw [if_pos g18] at h6
        cases h6
        exact J7 rfl
set_option maxHeartbeats 4000000 in
set_option maxRecDepth 100000 in
theorem mL_c31 {p : Program} {l : Launch} {e : Env} {R : Room} {s : State} {m : MethodId} {args : Array Value} {below : List Frame} {meth : Method} {c : Code} {Q : State → Prop} {D : va_G} {U : zz_U} {A : Nat → Prop} {cells slots : Nat} {ad : Nat → Nat} {ret : Option FieldType} {b L : Nat} {xs : Nat → Int32} (C : zz_C p l R s m meth c D U A RL code 9 ret [] 12) (hX : va_X b L xs s s.heap) (hbl : b < s.heap.size) (hbA : ¬ A b) (hcR : cells + 8 ≤ R.cells) (hsR : slots + 48 ≤ R.slots) (i_ : Int32) (σ τ : zz_St) (o : Nat → Int64) (r : zz_LS) (hf : fL_c31 xs L i_ σ τ o = some (some r)) (k : zz_Z p l e R s m args below meth c Q D A 9 (cells + 8) (slots + 48) (zz_wl U ad r.1 r.2.1 r.2.2) 1867 [(0, .ref b), (1, .ref (ad 0)), (2, .ref (ad 47)), (3, .ref (ad 62)), (4, .int i_)] []) : zz_Z p l e R s m args below meth c Q D A 9 cells slots (zz_wl U ad σ τ o) 1853 [(0, .ref b), (1, .ref (ad 0)), (2, .ref (ad 47)), (3, .ref (ad 62)), (4, .int i_)] [] := by
  unfold fL_c31 at hf
  refine zz_aload_n C 1 dL_law_1853 rfl rfl ?_
  obtain ⟨x1, h2, hf⟩ := zz_bind hf
  refine zz_ren (ws' := (zz_wc U ad σ (zz_cm U ad τ ++ [zz_oc U ad o]))) rfl ?_
  refine zz_callV1 (As := []) (rest := []) C 0 (mX7_digest σ x1 h2) dL_law_1854 rfl rfl rfl zwl_91 zy_X7_digest rfl (by decide) (by decide) (Nat.le_of_ble_eq_true rfl) (by omega) (by omega) rfl ?_
  refine zz_ren (ws' := (zz_wl U ad x1.2 τ o)) rfl ?_
  refine zz_aload_n C 2 dL_law_1857 rfl rfl ?_
  obtain ⟨x3, h4, hf⟩ := zz_bind hf
  refine zz_ren (ws' := (zz_wm U ad x1.2 τ [zz_oc U ad o])) rfl ?_
  refine zz_callV1 (As := []) (rest := [.long x1.1]) C 47 (mX8_digest τ x3 h4) dL_law_1858 rfl rfl rfl zwl_90 zy_X8_digest rfl (by decide) (by decide) (Nat.le_of_ble_eq_true rfl) (by omega) (by omega) rfl ?_
  refine zz_ren (ws' := (zz_wl U ad x1.2 x3.2 o)) rfl ?_
  obtain ⟨x5, h6, hf⟩ := zz_bind hf
  refine zz_lcmp C dL_law_1861 ?_
  refine zz_topi (Option.some.inj h6) ?_
  refine zz_if_eq (tgt := 1867) C dL_law_1862 (by decide) (fun g7 => ?_) (fun g7 => ?_)
  · rw [if_pos g7] at hf
    cases hf
    refine zz_widen (k := cells + 8) (n := slots + 48) (by omega) (by omega) ?_
    exact k
  · rw [if_neg g7] at hf
    cases hf
set_option maxHeartbeats 4000000 in
set_option maxRecDepth 100000 in
theorem mL_sw {p : Program} {l : Launch} {e : Env} {R : Room} {s : State} {m : MethodId} {args : Array Value} {below : List Frame} {meth : Method} {c : Code} {Q : State → Prop} {D : va_G} {U : zz_U} {A : Nat → Prop} {ad : Nat → Nat} {ret : Option FieldType} {b L : Nat} {xs : Nat → Int32} {cells slots : Nat} (C : zz_C p l R s m meth c D U A RL code 9 ret [] 12) (hX : va_X b L xs s s.heap) (hbl : b < s.heap.size) (hbA : ¬ A b) (hcR : cells + 8 ≤ R.cells) (hsR : slots + 48 ≤ R.slots) (y i_ : Int32) (S r : zz_LS) (hf : fL_sw xs L y i_ S = some (some r)) (k : zz_Z p l e R s m args below meth c Q D A 9 (cells + 8) (slots + 48) (zz_wl U ad r.1 r.2.1 r.2.2) 1867 [(0, .ref b), (1, .ref (ad 0)), (2, .ref (ad 47)), (3, .ref (ad 62)), (4, .int i_)] []) : zz_Z p l e R s m args below meth c Q D A 9 cells slots (zz_wl U ad S.1 S.2.1 S.2.2) 39 [(0, .ref b), (1, .ref (ad 0)), (2, .ref (ad 47)), (3, .ref (ad 62)), (4, .int i_)] [.int y] := by
  unfold fL_sw at hf
  by_cases g0 : y = (0 : Int32)
  · rw [if_pos g0] at hf
    refine zz_tableIn (off := 141) (tgt := 180) C dL_law_39 (by rw [g0]; decide) (by rw [g0]; decide) (by rw [g0]; rfl) (by decide) ?_
    exact mL_c0 C hX hbl hbA hcR hsR i_ S.1 S.2.1 S.2.2 r hf k
  rw [if_neg g0] at hf
  by_cases g1 : y = (1 : Int32)
  · rw [if_pos g1] at hf
    refine zz_tableIn (off := 233) (tgt := 272) C dL_law_39 (by rw [g1]; decide) (by rw [g1]; decide) (by rw [g1]; rfl) (by decide) ?_
    exact mL_c1 C hX hbl hbA hcR hsR i_ S.1 S.2.1 S.2.2 r hf k
  rw [if_neg g1] at hf
  by_cases g2 : y = (2 : Int32)
  · rw [if_pos g2] at hf
    refine zz_tableIn (off := 313) (tgt := 352) C dL_law_39 (by rw [g2]; decide) (by rw [g2]; decide) (by rw [g2]; rfl) (by decide) ?_
    exact mL_c2 C hX hbl hbA hcR hsR i_ S.1 S.2.1 S.2.2 r hf k
  rw [if_neg g2] at hf
  by_cases g3 : y = (3 : Int32)
  · rw [if_pos g3] at hf
    refine zz_tableIn (off := 381) (tgt := 420) C dL_law_39 (by rw [g3]; decide) (by rw [g3]; decide) (by rw [g3]; rfl) (by decide) ?_
    exact mL_c3 C hX hbl hbA hcR hsR i_ S.1 S.2.1 S.2.2 r hf k
  rw [if_neg g3] at hf
  by_cases g4 : y = (4 : Int32)
  · rw [if_pos g4] at hf
    refine zz_tableIn (off := 484) (tgt := 523) C dL_law_39 (by rw [g4]; decide) (by rw [g4]; decide) (by rw [g4]; rfl) (by decide) ?_
    exact mL_c4 C hX hbl hbA hcR hsR i_ S.1 S.2.1 S.2.2 r hf k
  rw [if_neg g4] at hf
  by_cases g5 : y = (5 : Int32)
  · rw [if_pos g5] at hf
    refine zz_tableIn (off := 528) (tgt := 567) C dL_law_39 (by rw [g5]; decide) (by rw [g5]; decide) (by rw [g5]; rfl) (by decide) ?_
    exact mL_c5 C hX hbl hbA hcR hsR i_ S.1 S.2.1 S.2.2 r hf k
  rw [if_neg g5] at hf
  by_cases g6 : y = (6 : Int32)
  · rw [if_pos g6] at hf
    refine zz_tableIn (off := 541) (tgt := 580) C dL_law_39 (by rw [g6]; decide) (by rw [g6]; decide) (by rw [g6]; rfl) (by decide) ?_
    exact mL_c6 C hX hbl hbA hcR hsR i_ S.1 S.2.1 S.2.2 r hf k
  rw [if_neg g6] at hf
  by_cases g7 : y = (7 : Int32)
  · rw [if_pos g7] at hf
    refine zz_tableIn (off := 609) (tgt := 648) C dL_law_39 (by rw [g7]; decide) (by rw [g7]; decide) (by rw [g7]; rfl) (by decide) ?_
    exact mL_c7 C hX hbl hbA hcR hsR i_ S.1 S.2.1 S.2.2 r hf k
  rw [if_neg g7] at hf
  by_cases g8 : y = (8 : Int32)
  · rw [if_pos g8] at hf
    refine zz_tableIn (off := 665) (tgt := 704) C dL_law_39 (by rw [g8]; decide) (by rw [g8]; decide) (by rw [g8]; rfl) (by decide) ?_
    exact mL_c8 C hX hbl hbA hcR hsR i_ S.1 S.2.1 S.2.2 r hf k
  rw [if_neg g8] at hf
  by_cases g9 : y = (9 : Int32)
  · rw [if_pos g9] at hf
    refine zz_tableIn (off := 745) (tgt := 784) C dL_law_39 (by rw [g9]; decide) (by rw [g9]; decide) (by rw [g9]; rfl) (by decide) ?_
    exact mL_c9 C hX hbl hbA hcR hsR i_ S.1 S.2.1 S.2.2 r hf k
  rw [if_neg g9] at hf
  by_cases g10 : y = (10 : Int32)
  · rw [if_pos g10] at hf
    refine zz_tableIn (off := 813) (tgt := 852) C dL_law_39 (by rw [g10]; decide) (by rw [g10]; decide) (by rw [g10]; rfl) (by decide) ?_
    exact mL_c10 C hX hbl hbA hcR hsR i_ S.1 S.2.1 S.2.2 r hf k
  rw [if_neg g10] at hf
  by_cases g11 : y = (11 : Int32)
  · rw [if_pos g11] at hf
    refine zz_tableIn (off := 869) (tgt := 908) C dL_law_39 (by rw [g11]; decide) (by rw [g11]; decide) (by rw [g11]; rfl) (by decide) ?_
    exact mL_c11 C hX hbl hbA hcR hsR i_ S.1 S.2.1 S.2.2 r hf k
  rw [if_neg g11] at hf
  by_cases g12 : y = (12 : Int32)
  · rw [if_pos g12] at hf
    refine zz_tableIn (off := 925) (tgt := 964) C dL_law_39 (by rw [g12]; decide) (by rw [g12]; decide) (by rw [g12]; rfl) (by decide) ?_
    exact mL_c12 C hX hbl hbA hcR hsR i_ S.1 S.2.1 S.2.2 r hf k
  rw [if_neg g12] at hf
  by_cases g13 : y = (13 : Int32)
  · rw [if_pos g13] at hf
    refine zz_tableIn (off := 981) (tgt := 1020) C dL_law_39 (by rw [g13]; decide) (by rw [g13]; decide) (by rw [g13]; rfl) (by decide) ?_
    exact mL_c13 C hX hbl hbA hcR hsR i_ S.1 S.2.1 S.2.2 r hf k
  rw [if_neg g13] at hf
  by_cases g14 : y = (14 : Int32)
  · rw [if_pos g14] at hf
    refine zz_tableIn (off := 1061) (tgt := 1100) C dL_law_39 (by rw [g14]; decide) (by rw [g14]; decide) (by rw [g14]; rfl) (by decide) ?_
    exact mL_c14 C hX hbl hbA hcR hsR i_ S.1 S.2.1 S.2.2 r hf k
  rw [if_neg g14] at hf
  by_cases g15 : y = (15 : Int32)
  · rw [if_pos g15] at hf
    refine zz_tableIn (off := 1074) (tgt := 1113) C dL_law_39 (by rw [g15]; decide) (by rw [g15]; decide) (by rw [g15]; rfl) (by decide) ?_
    exact mL_c15 C hX hbl hbA hcR hsR i_ S.1 S.2.1 S.2.2 r hf k
  rw [if_neg g15] at hf
  by_cases g16 : y = (16 : Int32)
  · rw [if_pos g16] at hf
    refine zz_tableIn (off := 1130) (tgt := 1169) C dL_law_39 (by rw [g16]; decide) (by rw [g16]; decide) (by rw [g16]; rfl) (by decide) ?_
    exact mL_c16 C hX hbl hbA hcR hsR i_ S.1 S.2.1 S.2.2 r hf k
  rw [if_neg g16] at hf
  by_cases g17 : y = (17 : Int32)
  · rw [if_pos g17] at hf
    refine zz_tableIn (off := 1186) (tgt := 1225) C dL_law_39 (by rw [g17]; decide) (by rw [g17]; decide) (by rw [g17]; rfl) (by decide) ?_
    exact mL_c17 C hX hbl hbA hcR hsR i_ S.1 S.2.1 S.2.2 r hf k
  rw [if_neg g17] at hf
  by_cases g18 : y = (18 : Int32)
  · rw [if_pos g18] at hf
    refine zz_tableIn (off := 1254) (tgt := 1293) C dL_law_39 (by rw [g18]; decide) (by rw [g18]; decide) (by rw [g18]; rfl) (by decide) ?_
    exact mL_c18 C hX hbl hbA hcR hsR i_ S.1 S.2.1 S.2.2 r hf k
  rw [if_neg g18] at hf
  by_cases g19 : y = (19 : Int32)
  · rw [if_pos g19] at hf
    refine zz_tableIn (off := 1267) (tgt := 1306) C dL_law_39 (by rw [g19]; decide) (by rw [g19]; decide) (by rw [g19]; rfl) (by decide) ?_
    exact mL_c19 C hX hbl hbA hcR hsR i_ S.1 S.2.1 S.2.2 r hf k
  rw [if_neg g19] at hf
  by_cases g20 : y = (20 : Int32)
  · rw [if_pos g20] at hf
    refine zz_tableIn (off := 1342) (tgt := 1381) C dL_law_39 (by rw [g20]; decide) (by rw [g20]; decide) (by rw [g20]; rfl) (by decide) ?_
    exact mL_c20 C hX hbl hbA hcR hsR i_ S.1 S.2.1 S.2.2 r hf k
  rw [if_neg g20] at hf
  by_cases g21 : y = (21 : Int32)
  · rw [if_pos g21] at hf
    refine zz_tableIn (off := 1355) (tgt := 1394) C dL_law_39 (by rw [g21]; decide) (by rw [g21]; decide) (by rw [g21]; rfl) (by decide) ?_
    exact mL_c21 C hX hbl hbA hcR hsR i_ S.1 S.2.1 S.2.2 r hf k
  rw [if_neg g21] at hf
  by_cases g22 : y = (22 : Int32)
  · rw [if_pos g22] at hf
    refine zz_tableIn (off := 1411) (tgt := 1450) C dL_law_39 (by rw [g22]; decide) (by rw [g22]; decide) (by rw [g22]; rfl) (by decide) ?_
    exact mL_c22 C hX hbl hbA hcR hsR i_ S.1 S.2.1 S.2.2 r hf k
  rw [if_neg g22] at hf
  by_cases g23 : y = (23 : Int32)
  · rw [if_pos g23] at hf
    refine zz_tableIn (off := 1467) (tgt := 1506) C dL_law_39 (by rw [g23]; decide) (by rw [g23]; decide) (by rw [g23]; rfl) (by decide) ?_
    exact mL_c23 C hX hbl hbA hcR hsR i_ S.1 S.2.1 S.2.2 r hf k
  rw [if_neg g23] at hf
  by_cases g24 : y = (24 : Int32)
  · rw [if_pos g24] at hf
    refine zz_tableIn (off := 1480) (tgt := 1519) C dL_law_39 (by rw [g24]; decide) (by rw [g24]; decide) (by rw [g24]; rfl) (by decide) ?_
    exact mL_c24 C hX hbl hbA hcR hsR i_ S.1 S.2.1 S.2.2 r hf k
  rw [if_neg g24] at hf
  by_cases g25 : y = (25 : Int32)
  · rw [if_pos g25] at hf
    refine zz_tableIn (off := 1536) (tgt := 1575) C dL_law_39 (by rw [g25]; decide) (by rw [g25]; decide) (by rw [g25]; rfl) (by decide) ?_
    exact mL_c25 C hX hbl hbA hcR hsR i_ S.1 S.2.1 S.2.2 r hf k
  rw [if_neg g25] at hf
  by_cases g26 : y = (26 : Int32)
  · rw [if_pos g26] at hf
    refine zz_tableIn (off := 1592) (tgt := 1631) C dL_law_39 (by rw [g26]; decide) (by rw [g26]; decide) (by rw [g26]; rfl) (by decide) ?_
    exact mL_c26 C hX hbl hbA hcR hsR i_ S.1 S.2.1 S.2.2 r hf k
  rw [if_neg g26] at hf
  by_cases g27 : y = (27 : Int32)
  · rw [if_pos g27] at hf
    refine zz_tableIn (off := 1605) (tgt := 1644) C dL_law_39 (by rw [g27]; decide) (by rw [g27]; decide) (by rw [g27]; rfl) (by decide) ?_
    exact mL_c27 C hX hbl hbA hcR hsR i_ S.1 S.2.1 S.2.2 r hf k
  rw [if_neg g27] at hf
  by_cases g28 : y = (28 : Int32)
  · rw [if_pos g28] at hf
    refine zz_tableIn (off := 1649) (tgt := 1688) C dL_law_39 (by rw [g28]; decide) (by rw [g28]; decide) (by rw [g28]; rfl) (by decide) ?_
    exact mL_c28 C hX hbl hbA hcR hsR i_ S.1 S.2.1 S.2.2 r hf k
  rw [if_neg g28] at hf
  by_cases g29 : y = (29 : Int32)
  · rw [if_pos g29] at hf
    refine zz_tableIn (off := 1705) (tgt := 1744) C dL_law_39 (by rw [g29]; decide) (by rw [g29]; decide) (by rw [g29]; rfl) (by decide) ?_
    exact mL_c29 C hX hbl hbA hcR hsR i_ S.1 S.2.1 S.2.2 r hf k
  rw [if_neg g29] at hf
  by_cases g30 : y = (30 : Int32)
  · rw [if_pos g30] at hf
    refine zz_tableIn (off := 1773) (tgt := 1812) C dL_law_39 (by rw [g30]; decide) (by rw [g30]; decide) (by rw [g30]; rfl) (by decide) ?_
    exact mL_c30 C hX hbl hbA hcR hsR i_ S.1 S.2.1 S.2.2 r hf k
  rw [if_neg g30] at hf
  by_cases g31 : y = (31 : Int32)
  · rw [if_pos g31] at hf
    refine zz_tableIn (off := 1814) (tgt := 1853) C dL_law_39 (by rw [g31]; decide) (by rw [g31]; decide) (by rw [g31]; rfl) (by decide) ?_
    exact mL_c31 C hX hbl hbA hcR hsR i_ S.1 S.2.1 S.2.2 r hf k
  rw [if_neg g31] at hf
  cases hf
  refine zz_tableOut (tgt := 1867) C dL_law_39 (by have q0 := zz_sw 0 (0 : Int32) (by decide) g0; have q1 := zz_sw 1 (1 : Int32) (by decide) g1; have q2 := zz_sw 2 (2 : Int32) (by decide) g2; have q3 := zz_sw 3 (3 : Int32) (by decide) g3; have q4 := zz_sw 4 (4 : Int32) (by decide) g4; have q5 := zz_sw 5 (5 : Int32) (by decide) g5; have q6 := zz_sw 6 (6 : Int32) (by decide) g6; have q7 := zz_sw 7 (7 : Int32) (by decide) g7; have q8 := zz_sw 8 (8 : Int32) (by decide) g8; have q9 := zz_sw 9 (9 : Int32) (by decide) g9; have q10 := zz_sw 10 (10 : Int32) (by decide) g10; have q11 := zz_sw 11 (11 : Int32) (by decide) g11; have q12 := zz_sw 12 (12 : Int32) (by decide) g12; have q13 := zz_sw 13 (13 : Int32) (by decide) g13; have q14 := zz_sw 14 (14 : Int32) (by decide) g14; have q15 := zz_sw 15 (15 : Int32) (by decide) g15; have q16 := zz_sw 16 (16 : Int32) (by decide) g16; have q17 := zz_sw 17 (17 : Int32) (by decide) g17; have q18 := zz_sw 18 (18 : Int32) (by decide) g18; have q19 := zz_sw 19 (19 : Int32) (by decide) g19; have q20 := zz_sw 20 (20 : Int32) (by decide) g20; have q21 := zz_sw 21 (21 : Int32) (by decide) g21; have q22 := zz_sw 22 (22 : Int32) (by decide) g22; have q23 := zz_sw 23 (23 : Int32) (by decide) g23; have q24 := zz_sw 24 (24 : Int32) (by decide) g24; have q25 := zz_sw 25 (25 : Int32) (by decide) g25; have q26 := zz_sw 26 (26 : Int32) (by decide) g26; have q27 := zz_sw 27 (27 : Int32) (by decide) g27; have q28 := zz_sw 28 (28 : Int32) (by decide) g28; have q29 := zz_sw 29 (29 : Int32) (by decide) g29; have q30 := zz_sw 30 (30 : Int32) (by decide) g30; have q31 := zz_sw 31 (31 : Int32) (by decide) g31; omega) (by decide) ?_
  refine zz_widen (k := cells + 8) (n := slots + 48) (by omega) (by omega) ?_
  exact k
set_option maxHeartbeats 4000000 in
set_option maxRecDepth 100000 in
theorem mL_loop {p : Program} {l : Launch} {e : Env} {R : Room} {s : State} {m : MethodId} {args : Array Value} {below : List Frame} {meth : Method} {c : Code} {Q : State → Prop} {D : va_G} {U : zz_U} {A : Nat → Prop} {ad : Nat → Nat} {ret : Option FieldType} {b L : Nat} {xs : Nat → Int32} (C : zz_C p l R s m meth c D U A RL code 9 ret [] 12) (hX : va_X b L xs s s.heap) (hbl : b < s.heap.size) (hbA : ¬ A b) : ∀ (n : Nat) (i_ : Int32) (S r : zz_LS) (cells slots : Nat), fL_loop xs L n i_ S = some (some r) → cells + n * 8 ≤ R.cells → slots + n * 48 ≤ R.slots → (∀ j : Int32, zz_Z p l e R s m args below meth c Q D A 9 R.cells R.slots (zz_wl U ad r.1 r.2.1 r.2.2) 1873 [(0, .ref b), (1, .ref (ad 0)), (2, .ref (ad 47)), (3, .ref (ad 62)), (4, .int j)] []) → zz_Z p l e R s m args below meth c Q D A 9 cells slots (zz_wl U ad S.1 S.2.1 S.2.2) 23 [(0, .ref b), (1, .ref (ad 0)), (2, .ref (ad 47)), (3, .ref (ad 62)), (4, .int i_)] [] := by
  intro n
  induction n with
  | zero => intro i_ S r cells slots hf; rw [fL_loop] at hf; cases hf
  | succ n ih =>
    intro i_ S r cells slots hf hc hs k
    rw [fL_loop] at hf
    refine zz_iload C 4 dL_law_23 rfl ?_
    refine zz_aload_n C 0 dL_law_25 rfl rfl ?_
    refine zz_slen C hX hbl hbA dL_law_26 ?_
    refine zz_iconst (v := (5 : Int32)) C dL_law_27 (by decide) ?_
    refine zz_isub C dL_law_28 ?_
    refine zz_icmp_gt (tgt := 1873) C dL_law_29 (by decide) (fun g => ?_) (fun g => ?_)
    · rw [if_pos g] at hf
      cases hf
      refine zz_widen (k := R.cells) (n := R.slots) (by omega) (by omega) ?_
      exact k _
    · rw [if_neg g] at hf
      obtain ⟨x, hx, hf⟩ := zz_bind hf
      obtain ⟨r1, hr1, hf⟩ := zz_bind hf
      rcases r1 with _ | S1
      · cases hf
      · refine zz_aload_n C 0 dL_law_32 rfl rfl ?_
        refine zz_iload C 4 dL_law_33 rfl ?_
        refine zz_sld C hX hbl hbA dL_law_35 hx ?_
        refine zz_bipush (v := (31 : Int32)) C dL_law_36 (by decide) ?_
        refine zz_iand C dL_law_38 ?_
        refine mL_sw C hX hbl hbA (by omega) (by omega) _ i_ S S1 hr1 ?_
        refine zz_iinc (v := (i_ + (5 : Int32))) C 4 dL_law_1867 rfl (by rfl) (by decide) (lv' := [(4, .int (i_ + (5 : Int32))), (0, .ref b), (1, .ref (ad 0)), (2, .ref (ad 47)), (3, .ref (ad 62))]) rfl ?_
        refine zz_goto (tgt := 23) C dL_law_1870 (by decide) ?_
        refine zz_sub [1, 2, 3, 4, 0] rfl ?_
        exact ih _ S1 r _ _ hf (by omega) (by omega) k

/-! the functions of the classes, as their text has them (by program) -/
def fX7_isUpTo (σ : zz_St) (number_ : Int32) (greatest_ : Int32) : Option Int32 :=
  (if number_ < 0 then
    some false
  else
    if greatest_ < number_ then
      some false
    else
      some true).bind fun b1 =>
  some (zz_bi b1)

def fX7_forgetResults (σ : zz_St) : Option zz_St :=
  some (zz_u (zz_u σ 0 7 (0 : Int32)) 0 8 (0 : Int32))

def fX5_append (σ : zz_St) (file_ : Int32) (line_ : Int32) (linesAdded_ : Int32) (linesTaken_ : Int32) : Option (Int32 × zz_St) :=
  if (σ 1 0) < (14 : Int32) then
    (zz_pa σ 2 14 (σ 1 0) file_).bind fun σ2 =>
    (zz_pa σ2 3 14 (σ 1 0) line_).bind fun σ4 =>
    (zz_pa σ4 4 14 (σ 1 0) linesAdded_).bind fun σ6 =>
    (zz_pa σ6 5 14 (σ 1 0) linesTaken_).bind fun σ8 =>
    (zz_pa σ8 6 14 (σ 1 0) (0 : Int32)).bind fun σ10 =>
    some ((σ 1 0), (zz_u σ10 1 0 ((σ 1 0) + (1 : Int32))))
  else
    some ((-1 : Int32), σ)

def fX7_addPiece (σ : zz_St) (file_ : Int32) (line_ : Int32) (added_ : Int32) (taken_ : Int32) : Option ((Int32 ⊕ String) × zz_St) :=
  ((fX7_isUpTo σ file_ (9 : Int32)).bind fun x6 =>
  if x6 = 0 then
    some true
  else
    (fX7_isUpTo σ line_ (9999 : Int32)).bind fun x9 =>
    if x9 = 0 then
      some true
    else
      some false).bind fun b1 =>
  if b1 = true then
    some ((.inr "java/lang/IllegalArgumentException"), σ)
  else
    ((fX7_isUpTo σ added_ (999 : Int32)).bind fun x17 =>
    if x17 = 0 then
      some true
    else
      (fX7_isUpTo σ taken_ (999 : Int32)).bind fun x20 =>
      if x20 = 0 then
        some true
      else
        some false).bind fun b12 =>
    if b12 = true then
      some ((.inr "java/lang/IllegalArgumentException"), σ)
    else
      if (σ 1 0) < (14 : Int32) then
        (fX7_forgetResults σ).bind fun x24 =>
        (fX5_append x24 file_ line_ added_ taken_).bind fun x26 =>
        some ((.inl x26.1), x26.2)
      else
        some ((.inr "java/lang/IllegalStateException"), σ)

def fX5_has (σ : zz_St) (piece_ : Int32) : Option Int32 :=
  (if piece_ < 0 then
    some false
  else
    if (σ 1 0) ≤ piece_ then
      some false
    else
      some true).bind fun b1 =>
  some (zz_bi b1)

def fX7_requirePiece (σ : zz_St) (piece_ : Int32) : Option (Unit ⊕ String) :=
  (fX5_has σ piece_).bind fun x1 =>
  if x1 = 0 then
    some (.inr "java/lang/IndexOutOfBoundsException")
  else
    some (.inl ())

def fX7_requireSet (σ : zz_St) (piece_ : Int32) (what_ : Int32) : Option (Unit ⊕ String) :=
  (fX7_requirePiece σ piece_).bind fun x1 =>
  match x1 with
  | .inl x1 =>
    (if what_ < 0 then
      some true
    else
      if what_ < (4 : Int32) then
        some false
      else
        some true).bind fun b4 =>
    if b4 = true then
      some (.inr "java/lang/IndexOutOfBoundsException")
    else
      some (.inl ())
  | .inr E3 =>
    some (.inr E3)

def fX5_replaceNames_L1 (piece_ : Int32) (what_ : Int32) (names_ : Int32) (before_ : Int32) : Nat → Int32 → zz_St → Option (Int32 × zz_St)
  | 0, _, _ => none
  | n + 1, name_, σ =>
    if (16 : Int32) ≤ name_ then
      some (name_, σ)
    else
      (zz_ix 4 what_).bind fun x10 =>
      (zz_ga (σ (13 + x10)) 16 name_).bind fun x12 =>
      (some (x12 &&& (((1 : Int32) <<< (piece_ &&& 31)) ^^^ (-1 : Int32)))).bind fun x14 =>
      (zz_ix 4 what_).bind fun x16 =>
      (zz_pa σ (13 + x16) 16 name_ (x14 ||| (((names_ >>> (name_ &&& 31)) &&& (1 : Int32)) <<< (piece_ &&& 31)))).bind fun σ18 =>
      fX5_replaceNames_L1 piece_ what_ names_ before_ n (name_ + (1 : Int32)) σ18

def fX5_replaceNames (σ : zz_St) (piece_ : Int32) (what_ : Int32) (names_ : Int32) : Option (Int32 × zz_St) :=
  (zz_ix 4 what_).bind fun x1 =>
  (zz_ga (σ (8 + x1)) 14 piece_).bind fun x3 =>
  (zz_ix 4 what_).bind fun x5 =>
  (zz_pa σ (8 + x5) 14 piece_ names_).bind fun σ7 =>
  (fX5_replaceNames_L1 piece_ what_ names_ x3 1000 (0 : Int32) σ7).bind fun q20 =>
  some (x3, q20.2)

def fX7_setNames (σ : zz_St) (piece_ : Int32) (what_ : Int32) (names_ : Int32) : Option ((Int32 ⊕ String) × zz_St) :=
  (fX7_requireSet σ piece_ what_).bind fun x1 =>
  match x1 with
  | .inl x1 =>
    (fX7_isUpTo σ names_ (65535 : Int32)).bind fun x4 =>
    if x4 = 0 then
      some ((.inr "java/lang/IllegalArgumentException"), σ)
    else
      (fX7_forgetResults σ).bind fun x7 =>
      (fX5_replaceNames x7 piece_ what_ names_).bind fun x9 =>
      some ((.inl x9.1), x9.2)
  | .inr E3 =>
    some ((.inr E3), σ)

def fX7_isIn (σ : zz_St) (element_ : Int32) (set_ : Int32) : Option Int32 :=
  (if ((set_ >>> (element_ &&& 31)) &&& (1 : Int32)) = (1 : Int32) then
    some true
  else
    some false).bind fun b1 =>
  some (zz_bi b1)

def fX1_learn (σ : zz_St) (name_ : Int32) (isDefined_ : Int32) (uses_ : Int32) : Option (Int32 × zz_St) :=
  ((fX7_isIn σ name_ (σ 17 0)).bind fun x4 =>
  if isDefined_ = x4 then
    (zz_ga (σ 18) 16 name_).bind fun x7 =>
    if uses_ = x7 then
      some false
    else
      some true
  else
    some true).bind fun b1 =>
  (some (zz_bi b1)).bind fun x10 =>
  (if isDefined_ = 0 then
    some ((σ 17 0) &&& (((1 : Int32) <<< (name_ &&& 31)) ^^^ (-1 : Int32)))
  else
    some ((σ 17 0) ||| ((1 : Int32) <<< (name_ &&& 31)))).bind fun x12 =>
  (zz_pa (zz_u σ 17 0 x12) 18 16 name_ uses_).bind fun σ16 =>
  (zz_bo x10).bind fun x18 =>
  some (x18, σ16)

def fX7_setName (σ : zz_St) (name_ : Int32) (isDefined_ : Int32) (uses_ : Int32) : Option ((Int32 ⊕ String) × zz_St) :=
  (if name_ < 0 then
    some true
  else
    if name_ < (16 : Int32) then
      some false
    else
      some true).bind fun b1 =>
  if b1 = true then
    some ((.inr "java/lang/IndexOutOfBoundsException"), σ)
  else
    (fX7_isUpTo σ uses_ (9 : Int32)).bind fun x8 =>
    if x8 = 0 then
      some ((.inr "java/lang/IllegalArgumentException"), σ)
    else
      (fX7_forgetResults σ).bind fun x11 =>
      (fX1_learn x11 name_ isDefined_ uses_).bind fun x13 =>
      (zz_bo x13.1).bind fun x15 =>
      some ((.inl x15), x13.2)

def fX7_pieceCount (σ : zz_St) : Option Int32 :=
  some (σ 1 0)

def fX7_setThreshold (σ : zz_St) (threshold_ : Int32) : Option ((Int32 ⊕ String) × zz_St) :=
  (if threshold_ < (1 : Int32) then
    some true
  else
    if threshold_ ≤ (999 : Int32) then
      some false
    else
      some true).bind fun b1 =>
  if b1 = true then
    some ((.inr "java/lang/IllegalArgumentException"), σ)
  else
    (fX7_forgetResults σ).bind fun x8 =>
    (some (x8 24 0)).bind fun x10 =>
    some ((.inl x10), (zz_u x8 24 0 threshold_))

def fX7_setManner (σ : zz_St) (manner_ : Int32) : Option ((Int32 ⊕ String) × zz_St) :=
  (fX7_isUpTo σ manner_ (2 : Int32)).bind fun x1 =>
  if x1 = 0 then
    some ((.inr "java/lang/IllegalArgumentException"), σ)
  else
    (fX7_forgetResults σ).bind fun x4 =>
    (some (x4 24 1)).bind fun x6 =>
    some ((.inl x6), (zz_u x4 24 1 manner_))

def fX7_requireDifferent (σ : zz_St) (a_ : Int32) (b_ : Int32) : Option (Unit ⊕ String) :=
  if a_ = b_ then
    some (.inr "java/lang/IllegalArgumentException")
  else
    some (.inl ())

def fX6_saidOf (σ : zz_St) (a_ : Int32) (b_ : Int32) : Option Int32 :=
  (zz_ga (σ 22) 14 a_).bind fun x1 =>
  (fX7_isIn σ b_ x1).bind fun x3 =>
  if x3 = 0 then
    ((zz_ga (σ 23) 14 a_).bind fun x9 =>
    (fX7_isIn σ b_ x9).bind fun x11 =>
    if x11 = 0 then
      some (0 : Int32)
    else
      some (2 : Int32)).bind fun x6 =>
    some x6
  else
    some (1 : Int32)

def fX6_putOneWay (σ : zz_St) (from_ : Int32) (to_ : Int32) (what_ : Int32) : Option zz_St :=
  (some (((1 : Int32) <<< (to_ &&& 31)) ^^^ (-1 : Int32))).bind fun x1 =>
  (zz_ga (σ 22) 14 from_).bind fun x3 =>
  (if what_ = (1 : Int32) then
    some ((1 : Int32) <<< (to_ &&& 31))
  else
    some (0 : Int32)).bind fun x5 =>
  (zz_pa σ 22 14 from_ ((x3 &&& x1) ||| x5)).bind fun σ9 =>
  (zz_ga (σ9 23) 14 from_).bind fun x11 =>
  (if what_ = (2 : Int32) then
    some ((1 : Int32) <<< (to_ &&& 31))
  else
    some (0 : Int32)).bind fun x13 =>
  (zz_pa σ9 23 14 from_ ((x11 &&& x1) ||| x13)).bind fun σ17 =>
  some σ17

def fX6_put (σ : zz_St) (a_ : Int32) (b_ : Int32) (what_ : Int32) : Option zz_St :=
  (fX6_putOneWay σ a_ b_ what_).bind fun x1 =>
  (fX6_putOneWay x1 b_ a_ what_).bind fun x3 =>
  some x3

def fX6_joinedTo_L2 (σ : zz_St) (piece_ : Int32) (before_ : Int32) (round_ : Int32) : Nat → Int32 → Int32 → Option (Int32 × Int32)
  | 0, _, _ => none
  | n + 1, joined_, other_ =>
    if (14 : Int32) ≤ other_ then
      some (joined_, other_)
    else
      ((fX7_isIn σ other_ joined_).bind fun x14 =>
      if x14 = 0 then
        some (0 : Int32)
      else
        (zz_ga (σ 22) 14 other_).bind fun x17 =>
        some x17).bind fun x11 =>
      (some (joined_ ||| x11)).bind fun x19 =>
      fX6_joinedTo_L2 σ piece_ before_ round_ n x19 (other_ + (1 : Int32))

def fX6_joinedTo_L1 (σ : zz_St) (piece_ : Int32) : Nat → Int32 → Int32 → Int32 → Option (Int32 × Int32 × Int32)
  | 0, _, _, _ => none
  | n + 1, joined_, before_, round_ =>
    (if (14 : Int32) ≤ round_ then
      some false
    else
      if joined_ = before_ then
        some false
      else
        some true).bind fun b3 =>
    if b3 = true then
      (fX6_joinedTo_L2 σ piece_ joined_ round_ 1000 joined_ (0 : Int32)).bind fun q21 =>
      fX6_joinedTo_L1 σ piece_ n q21.1 joined_ (round_ + (1 : Int32))
    else
      some (joined_, before_, round_)

def fX6_joinedTo (σ : zz_St) (piece_ : Int32) : Option Int32 :=
  (some ((1 : Int32) <<< (piece_ &&& 31))).bind fun x1 =>
  (fX6_joinedTo_L1 σ piece_ 1000 x1 (0 : Int32) (0 : Int32)).bind fun q23 =>
  some q23.1

def fX6_isContradiction_L1 (σ : zz_St) : Nat → Int32 → Option (Int32 ⊕ (Int32))
  | 0, _ => none
  | n + 1, piece_ =>
    if (14 : Int32) ≤ piece_ then
      some (.inr piece_)
    else
      ((zz_ga (σ 23) 14 piece_).bind fun x7 =>
      if x7 = 0 then
        some false
      else
        (fX6_joinedTo σ piece_).bind fun x10 =>
        (zz_ga (σ 23) 14 piece_).bind fun x12 =>
        if (x10 &&& x12) = 0 then
          some false
        else
          some true).bind fun b2 =>
      if b2 = true then
        some (.inl (1 : Int32))
      else
        fX6_isContradiction_L1 σ n (piece_ + (1 : Int32))

def fX6_isContradiction (σ : zz_St) : Option Int32 :=
  (fX6_isContradiction_L1 σ 1000 (0 : Int32)).bind fun q15 =>
  match q15 with
  | .inl v17 =>
    (zz_bo v17).bind fun x20 =>
    some x20
  | .inr w18 =>
    some (0 : Int32)

def fX7_say (σ : zz_St) (a_ : Int32) (b_ : Int32) (what_ : Int32) : Option ((Int32 ⊕ String) × zz_St) :=
  (fX7_requirePiece σ a_).bind fun x1 =>
  match x1 with
  | .inl x1 =>
    (fX7_requirePiece σ b_).bind fun x4 =>
    match x4 with
    | .inl x4 =>
      (fX7_requireDifferent σ a_ b_).bind fun x7 =>
      match x7 with
      | .inl x7 =>
        (fX7_isUpTo σ what_ (2 : Int32)).bind fun x10 =>
        if x10 = 0 then
          some ((.inr "java/lang/IllegalArgumentException"), σ)
        else
          (fX6_saidOf σ a_ b_).bind fun x13 =>
          (fX6_put σ a_ b_ what_).bind fun x15 =>
          (fX6_isContradiction x15).bind fun x17 =>
          if x17 = 0 then
            (fX7_forgetResults x15).bind fun x20 =>
            some ((.inl x13), x20)
          else
            (fX6_put x15 a_ b_ x13).bind fun x22 =>
            some ((.inr "java/lang/IllegalStateException"), x22)
      | .inr E9 =>
        some ((.inr E9), σ)
    | .inr E6 =>
      some ((.inr E6), σ)
  | .inr E3 =>
    some ((.inr E3), σ)

def fX2_isNear (σ : zz_St) (a_ : Int32) (b_ : Int32) : Option Int32 :=
  ((zz_ga (σ 2) 14 a_).bind fun x4 =>
  (zz_ga (σ 2) 14 b_).bind fun x6 =>
  if x4 = x6 then
    (zz_ga (σ 3) 14 a_).bind fun x9 =>
    (zz_ga (σ 3) 14 b_).bind fun x11 =>
    if (σ 19 1) < (zz_abs (x9 - x11)) then
      some false
    else
      some true
  else
    some false).bind fun b1 =>
  some (zz_bi b1)

def fJ6_bitCount (i_ : Int32) : Option Int32 :=
  (some (i_ - ((zz_ushr i_ (1 : Int32)) &&& (1431655765 : Int32)))).bind fun x1 =>
  (some ((x1 &&& (858993459 : Int32)) + ((zz_ushr x1 (2 : Int32)) &&& (858993459 : Int32)))).bind fun x3 =>
  (some ((x3 + (zz_ushr x3 (4 : Int32))) &&& (252645135 : Int32))).bind fun x5 =>
  (some (x5 + (zz_ushr x5 (8 : Int32)))).bind fun x7 =>
  (some (x7 + (zz_ushr x7 (16 : Int32)))).bind fun x9 =>
  some (x9 &&& (63 : Int32))

def fX5_crossings (σ : zz_St) (a_ : Int32) (b_ : Int32) (what_ : Int32) (opposite_ : Int32) : Option Int32 :=
  (zz_ix 4 what_).bind fun x1 =>
  (zz_ga (σ (8 + x1)) 14 a_).bind fun x3 =>
  (zz_ix 4 opposite_).bind fun x5 =>
  (zz_ga (σ (8 + x5)) 14 b_).bind fun x7 =>
  (fJ6_bitCount (x3 &&& x7)).bind fun x9 =>
  (zz_ix 4 what_).bind fun x11 =>
  (zz_ga (σ (8 + x11)) 14 b_).bind fun x13 =>
  (zz_ix 4 opposite_).bind fun x15 =>
  (zz_ga (σ (8 + x15)) 14 a_).bind fun x17 =>
  (fJ6_bitCount (x13 &&& x17)).bind fun x19 =>
  some (x9 + x19)

def fX5_everyNameOf (σ : zz_St) (piece_ : Int32) : Option Int32 :=
  (zz_ix 4 (0 : Int32)).bind fun x1 =>
  (zz_ga (σ (8 + x1)) 14 piece_).bind fun x3 =>
  (zz_ix 4 (1 : Int32)).bind fun x5 =>
  (zz_ga (σ (8 + x5)) 14 piece_).bind fun x7 =>
  (zz_ix 4 (2 : Int32)).bind fun x9 =>
  (zz_ga (σ (8 + x9)) 14 piece_).bind fun x11 =>
  (zz_ix 4 (3 : Int32)).bind fun x13 =>
  (zz_ga (σ (8 + x13)) 14 piece_).bind fun x15 =>
  some (((x3 ||| x7) ||| x11) ||| x15)

def fX2_shareOf (σ : zz_St) (weight_ : Int32) (namesOfOne_ : Int32) (namesOfOther_ : Int32) : Option Int32 :=
  (fJ6_bitCount (namesOfOne_ ||| namesOfOther_)).bind fun x1 =>
  (if x1 = 0 then
    some (0 : Int32)
  else
    (fJ6_bitCount (namesOfOne_ &&& namesOfOther_)).bind fun x7 =>
    (zz_dv (weight_ * x7) x1).bind fun x9 =>
    some x9).bind fun x3 =>
  some x3

def fX2_pointsBy (σ : zz_St) (kind_ : Int32) (a_ : Int32) (b_ : Int32) : Option Int32 :=
  if kind_ = (0 : Int32) then
    ((fX2_isNear σ a_ b_).bind fun x5 =>
    if x5 = 0 then
      some (0 : Int32)
    else
      (zz_ga (σ 20) 4 (0 : Int32)).bind fun x8 =>
      some x8).bind fun x2 =>
    some x2
  else
    if kind_ = (1 : Int32) then
      (zz_ga (σ 20) 4 (1 : Int32)).bind fun x11 =>
      (fX5_crossings σ a_ b_ (0 : Int32) (2 : Int32)).bind fun x13 =>
      some (x11 * x13)
    else
      if kind_ = (2 : Int32) then
        (zz_ga (σ 20) 4 (2 : Int32)).bind fun x16 =>
        (fX5_crossings σ a_ b_ (1 : Int32) (0 : Int32)).bind fun x18 =>
        some (x16 * x18)
      else
        if kind_ = (3 : Int32) then
          (zz_ga (σ 20) 4 (3 : Int32)).bind fun x21 =>
          (fX5_everyNameOf σ a_).bind fun x23 =>
          (fX5_everyNameOf σ b_).bind fun x25 =>
          (fX2_shareOf σ x21 x23 x25).bind fun x27 =>
          some x27
        else
          some (0 : Int32)

def fX2_sumOfPoints_L1 (σ : zz_St) (a_ : Int32) (b_ : Int32) : Nat → Int32 → Int32 → Option (Int32 × Int32)
  | 0, _, _ => none
  | n + 1, sum_, kind_ =>
    if (4 : Int32) ≤ kind_ then
      some (sum_, kind_)
    else
      (fX2_pointsBy σ kind_ a_ b_).bind fun x2 =>
      (some (sum_ + x2)).bind fun x4 =>
      fX2_sumOfPoints_L1 σ a_ b_ n x4 (kind_ + (1 : Int32))

def fX2_sumOfPoints (σ : zz_St) (a_ : Int32) (b_ : Int32) : Option Int32 :=
  (fX2_sumOfPoints_L1 σ a_ b_ 1000 (0 : Int32) (0 : Int32)).bind fun q6 =>
  some q6.1

def fX3_weighAll_L2 (b_ : Int32) : Nat → Int32 → zz_St → Option (Int32 × zz_St)
  | 0, _, _ => none
  | n + 1, a_, σ =>
    if b_ ≤ a_ then
      some (a_, σ)
    else
      (fX2_sumOfPoints σ a_ b_).bind fun x3 =>
      (zz_ix 14 a_).bind fun x5 =>
      (zz_pa σ (27 + x5) 14 b_ x3).bind fun σ7 =>
      (zz_ix 14 b_).bind fun x9 =>
      (zz_pa σ7 (27 + x9) 14 a_ x3).bind fun σ11 =>
      fX3_weighAll_L2 b_ n (a_ + (1 : Int32)) σ11

def fX3_weighAll_L1 : Nat → Int32 → zz_St → Option (Int32 × zz_St)
  | 0, _, _ => none
  | n + 1, b_, σ =>
    if (σ 1 0) ≤ b_ then
      some (b_, σ)
    else
      (fX3_weighAll_L2 b_ 1000 (0 : Int32) σ).bind fun q13 =>
      fX3_weighAll_L1 n (b_ + (1 : Int32)) q13.2

def fX3_weighAll (σ : zz_St) : Option zz_St :=
  (fX3_weighAll_L1 1000 (1 : Int32) σ).bind fun q15 =>
  some q15.2

def fX3_joinWhatMust_L1 (pieceTotal_ : Int32) : Nat → Int32 → zz_St → Option (Int32 × zz_St)
  | 0, _, _ => none
  | n + 1, piece_, σ =>
    (if pieceTotal_ ≤ piece_ then
      some false
    else
      if (14 : Int32) ≤ piece_ then
        some false
      else
        some true).bind fun b1 =>
    if b1 = true then
      (fX6_joinedTo σ piece_).bind fun x8 =>
      (if (x8 &&& (((1 : Int32) <<< (piece_ &&& 31)) - (1 : Int32))) = 0 then
        some true
      else
        some false).bind fun b10 =>
      (some (zz_bi b10)).bind fun x14 =>
      (if x14 = 0 then
        some σ
      else
        (zz_pa σ 25 14 (σ 24 2) x8).bind fun σ20 =>
        some (zz_u σ20 24 2 ((σ20 24 2) + (1 : Int32)))).bind fun x16 =>
      fX3_joinWhatMust_L1 pieceTotal_ n (piece_ + (1 : Int32)) x16
    else
      some (piece_, σ)

def fX3_joinWhatMust (σ : zz_St) (pieceTotal_ : Int32) : Option zz_St :=
  (fX3_joinWhatMust_L1 pieceTotal_ 1000 (0 : Int32) (zz_u σ 24 2 (0 : Int32))).bind fun q22 =>
  some q22.2

def fX6_isForbidden_L1 (σ : zz_St) (set_ : Int32) (otherSet_ : Int32) : Nat → Int32 → Option (Int32 ⊕ (Int32))
  | 0, _ => none
  | n + 1, piece_ =>
    if (14 : Int32) ≤ piece_ then
      some (.inr piece_)
    else
      ((fX7_isIn σ piece_ set_).bind fun x7 =>
      if x7 = 0 then
        some false
      else
        (zz_ga (σ 23) 14 piece_).bind fun x10 =>
        if (x10 &&& otherSet_) = 0 then
          some false
        else
          some true).bind fun b2 =>
      if b2 = true then
        some (.inl (1 : Int32))
      else
        fX6_isForbidden_L1 σ set_ otherSet_ n (piece_ + (1 : Int32))

def fX6_isForbidden (σ : zz_St) (set_ : Int32) (otherSet_ : Int32) : Option Int32 :=
  (fX6_isForbidden_L1 σ set_ otherSet_ 1000 (0 : Int32)).bind fun q13 =>
  match q13 with
  | .inl v15 =>
    (zz_bo v15).bind fun x18 =>
    some x18
  | .inr w16 =>
    some (0 : Int32)

def fX3_linkageOf_L2 (σ : zz_St) (set_ : Int32) (otherSet_ : Int32) (a_ : Int32) : Nat → Int32 → Int32 → Int32 → Int32 → Option (Int32 × Int32 × Int32 × Int32)
  | 0, _, _, _, _ => none
  | n + 1, greatest_, least_, sum_, b_ =>
    (if (14 : Int32) ≤ b_ then
      some false
    else
      (fX7_isIn σ a_ set_).bind fun x8 =>
      if x8 = 0 then
        some false
      else
        some true).bind fun b2 =>
    if b2 = true then
      ((fX7_isIn σ b_ otherSet_).bind fun x14 =>
      if x14 = 0 then
        some (greatest_, least_, sum_)
      else
        (zz_ix 14 a_).bind fun x17 =>
        (zz_ga (σ (27 + x17)) 14 b_).bind fun x19 =>
        (some (zz_max greatest_ x19)).bind fun x21 =>
        (zz_ix 14 a_).bind fun x23 =>
        (zz_ga (σ (27 + x23)) 14 b_).bind fun x25 =>
        (some (zz_min least_ x25)).bind fun x27 =>
        (zz_ix 14 a_).bind fun x29 =>
        (zz_ga (σ (27 + x29)) 14 b_).bind fun x31 =>
        (some (sum_ + x31)).bind fun x33 =>
        some (x21, x27, x33)).bind fun x11 =>
      fX3_linkageOf_L2 σ set_ otherSet_ a_ n x11.1 x11.2.1 x11.2.2 (b_ + (1 : Int32))
    else
      some (greatest_, least_, sum_, b_)

def fX3_linkageOf_L1 (σ : zz_St) (set_ : Int32) (otherSet_ : Int32) : Nat → Int32 → Int32 → Int32 → Int32 → Option (Int32 × Int32 × Int32 × Int32)
  | 0, _, _, _, _ => none
  | n + 1, greatest_, least_, sum_, a_ =>
    if (14 : Int32) ≤ a_ then
      some (greatest_, least_, sum_, a_)
    else
      (fX3_linkageOf_L2 σ set_ otherSet_ a_ 1000 greatest_ least_ sum_ (0 : Int32)).bind fun q35 =>
      fX3_linkageOf_L1 σ set_ otherSet_ n q35.1 q35.2.1 q35.2.2.1 (a_ + (1 : Int32))

def fX3_linkageOf (σ : zz_St) (set_ : Int32) (otherSet_ : Int32) : Option Int32 :=
  (fX3_linkageOf_L1 σ set_ otherSet_ 1000 (0 : Int32) (1000000 : Int32) (0 : Int32) (0 : Int32)).bind fun q37 =>
  (fJ6_bitCount set_).bind fun x39 =>
  (fJ6_bitCount otherSet_).bind fun x41 =>
  (some (x39 * x41)).bind fun x43 =>
  if x43 = 0 then
    some (0 : Int32)
  else
    if (σ 24 1) = (1 : Int32) then
      (zz_dv q37.2.2.1 x43).bind fun x51 =>
      some x51
    else
      (if (σ 24 1) = 0 then
        some q37.1
      else
        some q37.2.1).bind fun x47 =>
      some x47

def fX3_join_L1 (first_ : Int32) (second_ : Int32) : Nat → Int32 → zz_St → Option (Int32 × zz_St)
  | 0, _, _ => none
  | n + 1, later_, σ =>
    if (σ 24 2) ≤ later_ then
      some (later_, σ)
    else
      (zz_ga (σ 25) 14 later_).bind fun x10 =>
      (zz_pa σ 25 14 (later_ - (1 : Int32)) x10).bind fun σ12 =>
      fX3_join_L1 first_ second_ n (later_ + (1 : Int32)) σ12

def fX3_join (σ : zz_St) (first_ : Int32) (second_ : Int32) : Option zz_St :=
  (zz_ga (σ 25) 14 first_).bind fun x1 =>
  (zz_ga (σ 25) 14 second_).bind fun x3 =>
  (zz_pa σ 25 14 first_ (x1 ||| x3)).bind fun σ5 =>
  (some (second_ + (1 : Int32))).bind fun x7 =>
  (fX3_join_L1 first_ second_ 1000 x7 σ5).bind fun q14 =>
  some (zz_u q14.2 24 2 ((q14.2 24 2) - (1 : Int32)))

def fX3_joinNearest_L2 (σ : zz_St) (a_ : Int32) : Nat → Int32 → Int32 → Int32 → Int32 → Option (Int32 × Int32 × Int32 × Int32)
  | 0, _, _, _, _ => none
  | n + 1, greatest_, first_, second_, b_ =>
    if (σ 24 2) ≤ b_ then
      some (greatest_, first_, second_, b_)
    else
      ((zz_ga (σ 25) 14 a_).bind fun x8 =>
      (zz_ga (σ 25) 14 b_).bind fun x10 =>
      (fX6_isForbidden σ x8 x10).bind fun x12 =>
      if x12 = 0 then
        (zz_ga (σ 25) 14 a_).bind fun x15 =>
        (zz_ga (σ 25) 14 b_).bind fun x17 =>
        (fX3_linkageOf σ x15 x17).bind fun x19 =>
        some x19
      else
        some (-1 : Int32)).bind fun x5 =>
      (if x5 ≤ greatest_ then
        some (greatest_, first_, second_)
      else
        some (x5, a_, b_)).bind fun x21 =>
      fX3_joinNearest_L2 σ a_ n x21.1 x21.2.1 x21.2.2 (b_ + (1 : Int32))

def fX3_joinNearest_L1 (σ : zz_St) : Nat → Int32 → Int32 → Int32 → Int32 → Option (Int32 × Int32 × Int32 × Int32)
  | 0, _, _, _, _ => none
  | n + 1, greatest_, first_, second_, a_ =>
    if (σ 24 2) ≤ a_ then
      some (greatest_, first_, second_, a_)
    else
      (some (a_ + (1 : Int32))).bind fun x2 =>
      (fX3_joinNearest_L2 σ a_ 1000 greatest_ first_ second_ x2).bind fun q25 =>
      fX3_joinNearest_L1 σ n q25.1 q25.2.1 q25.2.2.1 (a_ + (1 : Int32))

def fX3_joinNearest (σ : zz_St) : Option (Int32 × zz_St) :=
  (fX3_joinNearest_L1 σ 1000 (-1 : Int32) (0 : Int32) (0 : Int32) (0 : Int32)).bind fun q27 =>
  if (σ 24 0) ≤ q27.1 then
    (fX3_join σ q27.2.1 q27.2.2.1).bind fun x30 =>
    some ((1 : Int32), (zz_u x30 24 3 q27.1))
  else
    some ((0 : Int32), σ)

def fX3_build_L1 (pieceTotal_ : Int32) : Nat → Int32 → Int32 → zz_St → Option (Int32 × Int32 × zz_St)
  | 0, _, _, _ => none
  | n + 1, isJoined_, round_, σ =>
    (if (14 : Int32) ≤ round_ then
      some false
    else
      if isJoined_ = 0 then
        some false
      else
        some true).bind fun b3 =>
    if b3 = true then
      (fX3_joinNearest σ).bind fun x10 =>
      fX3_build_L1 pieceTotal_ n x10.1 (round_ + (1 : Int32)) x10.2
    else
      some (isJoined_, round_, σ)

def fX3_build (σ : zz_St) (pieceTotal_ : Int32) : Option zz_St :=
  (fX3_joinWhatMust σ pieceTotal_).bind fun x1 =>
  (fX3_build_L1 pieceTotal_ 1000 (1 : Int32) (0 : Int32) (zz_u x1 24 3 (-1 : Int32))).bind fun q12 =>
  some q12.2.2

def fX5_isNeeded (σ : zz_St) (piece_ : Int32) (ahead_ : Int32) (definedNames_ : Int32) : Option Int32 :=
  (zz_ix 4 (2 : Int32)).bind fun x1 =>
  (zz_ga (σ (8 + x1)) 14 piece_).bind fun x3 =>
  (zz_ix 4 (0 : Int32)).bind fun x5 =>
  (zz_ga (σ (8 + x5)) 14 ahead_).bind fun x7 =>
  (some ((x3 &&& x7) &&& (definedNames_ ^^^ (-1 : Int32)))).bind fun x9 =>
  (zz_ix 4 (1 : Int32)).bind fun x11 =>
  (zz_ga (σ (8 + x11)) 14 piece_).bind fun x13 =>
  (zz_ix 4 (3 : Int32)).bind fun x15 =>
  (zz_ga (σ (8 + x15)) 14 ahead_).bind fun x17 =>
  (some (x13 &&& x17)).bind fun x19 =>
  (zz_ix 4 (0 : Int32)).bind fun x21 =>
  (zz_ga (σ (8 + x21)) 14 piece_).bind fun x23 =>
  (zz_ix 4 (1 : Int32)).bind fun x25 =>
  (zz_ga (σ (8 + x25)) 14 ahead_).bind fun x27 =>
  (some (x23 &&& x27)).bind fun x29 =>
  (if ((x9 ||| x19) ||| x29) = 0 then
    some false
  else
    some true).bind fun b31 =>
  some (zz_bi b31)

def fX5_neededBy_L2 (σ : zz_St) (set_ : Int32) (definedNames_ : Int32) (piece_ : Int32) : Nat → Int32 → Int32 → Option (Int32 × Int32)
  | 0, _, _ => none
  | n + 1, needed_, ahead_ =>
    (if (σ 1 0) ≤ ahead_ then
      some false
    else
      (fX7_isIn σ piece_ set_).bind fun x8 =>
      if x8 = 0 then
        some false
      else
        some true).bind fun b2 =>
    if b2 = true then
      ((if ahead_ = piece_ then
        some false
      else
        (fX5_isNeeded σ piece_ ahead_ definedNames_).bind fun x20 =>
        if x20 = 0 then
          some false
        else
          some true).bind fun b14 =>
      if b14 = true then
        (some (needed_ ||| ((1 : Int32) <<< (ahead_ &&& 31)))).bind fun x23 =>
        some x23
      else
        some needed_).bind fun x11 =>
      fX5_neededBy_L2 σ set_ definedNames_ piece_ n x11 (ahead_ + (1 : Int32))
    else
      some (needed_, ahead_)

def fX5_neededBy_L1 (σ : zz_St) (set_ : Int32) (definedNames_ : Int32) : Nat → Int32 → Int32 → Option (Int32 × Int32)
  | 0, _, _ => none
  | n + 1, needed_, piece_ =>
    if (σ 1 0) ≤ piece_ then
      some (needed_, piece_)
    else
      (fX5_neededBy_L2 σ set_ definedNames_ piece_ 1000 needed_ (0 : Int32)).bind fun q25 =>
      fX5_neededBy_L1 σ set_ definedNames_ n q25.1 (piece_ + (1 : Int32))

def fX5_neededBy (σ : zz_St) (set_ : Int32) (definedNames_ : Int32) : Option Int32 :=
  (fX5_neededBy_L1 σ set_ definedNames_ 1000 (0 : Int32) (0 : Int32)).bind fun q27 =>
  some q27.1

def fX4_findNeeds_L2 (group_ : Int32) (neededPieces_ : Int32) : Nat → Int32 → zz_St → Option (Int32 × zz_St)
  | 0, _, _ => none
  | n + 1, other_, σ =>
    if (σ 24 2) ≤ other_ then
      some (other_, σ)
    else
      ((if other_ = group_ then
        some false
      else
        (zz_ga (σ 25) 14 other_).bind fun x18 =>
        if (neededPieces_ &&& x18) = 0 then
          some false
        else
          some true).bind fun b12 =>
      if b12 = true then
        (zz_ga (σ 43) 14 group_).bind fun x21 =>
        (zz_pa σ 43 14 group_ (x21 ||| ((1 : Int32) <<< (other_ &&& 31)))).bind fun σ23 =>
        some σ23
      else
        some σ).bind fun x9 =>
      fX4_findNeeds_L2 group_ neededPieces_ n (other_ + (1 : Int32)) x9

def fX4_findNeeds_L1 : Nat → Int32 → zz_St → Option (Int32 × zz_St)
  | 0, _, _ => none
  | n + 1, group_, σ =>
    if (σ 24 2) ≤ group_ then
      some (group_, σ)
    else
      (zz_ga (σ 25) 14 group_).bind fun x2 =>
      (fX5_neededBy σ x2 (σ 17 0)).bind fun x4 =>
      (zz_pa σ 43 14 group_ (0 : Int32)).bind fun σ6 =>
      (fX4_findNeeds_L2 group_ x4 1000 (0 : Int32) σ6).bind fun q25 =>
      fX4_findNeeds_L1 n (group_ + (1 : Int32)) q25.2

def fX4_findNeeds (σ : zz_St) : Option zz_St :=
  (fX4_findNeeds_L1 1000 (0 : Int32) σ).bind fun q27 =>
  some q27.2

def fX4_needByWayOfOthers_L2 (groupTotal_ : Int32) (way_ : Int32) : Nat → Int32 → zz_St → Option (Int32 × zz_St)
  | 0, _, _ => none
  | n + 1, group_, σ =>
    if groupTotal_ ≤ group_ then
      some (group_, σ)
    else
      ((zz_ga (σ 43) 14 group_).bind fun x6 =>
      (fX7_isIn σ way_ x6).bind fun x8 =>
      if x8 = 0 then
        some σ
      else
        (zz_ga (σ 43) 14 group_).bind fun x11 =>
        (zz_ga (σ 43) 14 way_).bind fun x13 =>
        (zz_pa σ 43 14 group_ (x11 ||| x13)).bind fun σ15 =>
        some σ15).bind fun x3 =>
      fX4_needByWayOfOthers_L2 groupTotal_ way_ n (group_ + (1 : Int32)) x3

def fX4_needByWayOfOthers_L1 (groupTotal_ : Int32) : Nat → Int32 → zz_St → Option (Int32 × zz_St)
  | 0, _, _ => none
  | n + 1, way_, σ =>
    if groupTotal_ ≤ way_ then
      some (way_, σ)
    else
      (fX4_needByWayOfOthers_L2 groupTotal_ way_ 1000 (0 : Int32) σ).bind fun q17 =>
      fX4_needByWayOfOthers_L1 groupTotal_ n (way_ + (1 : Int32)) q17.2

def fX4_needByWayOfOthers (σ : zz_St) (groupTotal_ : Int32) : Option zz_St :=
  (fX4_needByWayOfOthers_L1 groupTotal_ 1000 (0 : Int32) σ).bind fun q19 =>
  some q19.2

def fX4_circleOf_L1 (σ : zz_St) (group_ : Int32) (groupTotal_ : Int32) : Nat → Int32 → Int32 → Option (Int32 × Int32)
  | 0, _, _ => none
  | n + 1, circle_, other_ =>
    if groupTotal_ ≤ other_ then
      some (circle_, other_)
    else
      (((zz_ga (σ 43) 14 group_).bind fun x12 =>
      (fX7_isIn σ other_ x12).bind fun x14 =>
      if x14 = 0 then
        some false
      else
        (zz_ga (σ 43) 14 other_).bind fun x17 =>
        (fX7_isIn σ group_ x17).bind fun x19 =>
        if x19 = 0 then
          some false
        else
          some true).bind fun b7 =>
      if b7 = true then
        (some (circle_ ||| ((1 : Int32) <<< (other_ &&& 31)))).bind fun x22 =>
        some x22
      else
        some circle_).bind fun x4 =>
      fX4_circleOf_L1 σ group_ groupTotal_ n x4 (other_ + (1 : Int32))

def fX4_circleOf (σ : zz_St) (group_ : Int32) (groupTotal_ : Int32) : Option Int32 :=
  (some ((1 : Int32) <<< (group_ &&& 31))).bind fun x1 =>
  (fX4_circleOf_L1 σ group_ groupTotal_ 1000 x1 (0 : Int32)).bind fun q24 =>
  some q24.1

def fX4_nextCircle_L1 (σ : zz_St) (groupTotal_ : Int32) (placed_ : Int32) : Nat → Int32 → Option (Int32 ⊕ (Int32))
  | 0, _ => none
  | n + 1, group_ =>
    if groupTotal_ ≤ group_ then
      some (.inr group_)
    else
      (fX4_circleOf σ group_ groupTotal_).bind fun x2 =>
      ((zz_ga (σ 43) 14 group_).bind fun x7 =>
      if ((x7 &&& (x2 ^^^ (-1 : Int32))) &&& (placed_ ^^^ (-1 : Int32))) = 0 then
        some true
      else
        some false).bind fun b4 =>
      (some (zz_bi b4)).bind fun x10 =>
      ((fX7_isIn σ group_ placed_).bind fun x17 =>
      if x17 = 0 then
        if x10 = 0 then
          some false
        else
          some true
      else
        some false).bind fun b12 =>
      if b12 = true then
        some (.inl x2)
      else
        fX4_nextCircle_L1 σ groupTotal_ placed_ n (group_ + (1 : Int32))

def fX4_nextCircle (σ : zz_St) (groupTotal_ : Int32) (placed_ : Int32) : Option Int32 :=
  (fX4_nextCircle_L1 σ groupTotal_ placed_ 1000 (0 : Int32)).bind fun q21 =>
  match q21 with
  | .inl v23 =>
    some v23
  | .inr w24 =>
    some (0 : Int32)

def fX4_append_L1 (circle_ : Int32) : Nat → Int32 → zz_St → Option (Int32 × zz_St)
  | 0, _, _ => none
  | n + 1, group_, σ =>
    if (σ 24 2) ≤ group_ then
      some (group_, σ)
    else
      (zz_ga (σ 42) 14 (σ 41 0)).bind fun x5 =>
      ((fX7_isIn σ group_ circle_).bind fun x10 =>
      if x10 = 0 then
        some (0 : Int32)
      else
        (zz_ga (σ 25) 14 group_).bind fun x13 =>
        some x13).bind fun x7 =>
      (zz_pa σ 42 14 (σ 41 0) (x5 ||| x7)).bind fun σ15 =>
      fX4_append_L1 circle_ n (group_ + (1 : Int32)) σ15

def fX4_append (σ : zz_St) (circle_ : Int32) : Option zz_St :=
  if (σ 41 0) < (14 : Int32) then
    (zz_pa σ 42 14 (σ 41 0) (0 : Int32)).bind fun σ2 =>
    (fX4_append_L1 circle_ 1000 (0 : Int32) σ2).bind fun q17 =>
    ((fJ6_bitCount circle_).bind fun x22 =>
    if x22 ≤ (1 : Int32) then
      some (zz_u q17.2 41 0 ((q17.2 41 0) + (1 : Int32)))
    else
      some (zz_u (zz_u q17.2 41 0 ((q17.2 41 0) + (1 : Int32))) 41 1 (((zz_u q17.2 41 0 ((q17.2 41 0) + (1 : Int32))) 41 1) + (1 : Int32)))).bind fun x19 =>
    some x19
  else
    some σ

def fX4_build_L1 : Nat → Int32 → Int32 → zz_St → Option (Int32 × Int32 × zz_St)
  | 0, _, _, _ => none
  | n + 1, placed_, round_, σ =>
    if (σ 24 2) ≤ round_ then
      some (placed_, round_, σ)
    else
      (fX4_nextCircle σ (σ 24 2) placed_).bind fun x6 =>
      (if x6 = 0 then
        some (placed_, σ)
      else
        (some (placed_ ||| x6)).bind fun x12 =>
        (fX4_append σ x6).bind fun x14 =>
        some (x12, x14)).bind fun x8 =>
      fX4_build_L1 n x8.1 (round_ + (1 : Int32)) x8.2

def fX4_build (σ : zz_St) : Option zz_St :=
  (fX4_findNeeds σ).bind fun x1 =>
  (fX4_needByWayOfOthers x1 (x1 24 2)).bind fun x3 =>
  (fX4_build_L1 1000 (0 : Int32) (0 : Int32) (zz_u (zz_u x3 41 0 (0 : Int32)) 41 1 (0 : Int32))).bind fun q16 =>
  some q16.2.2

def fX7_putTogether (σ : zz_St) : Option zz_St :=
  (if (σ 0 7) = 0 then
    (fX3_weighAll σ).bind fun x5 =>
    (fX3_build x5 (x5 1 0)).bind fun x7 =>
    (fX4_build x7).bind fun x9 =>
    some (zz_u x9 0 7 (1 : Int32))
  else
    some σ).bind fun x1 =>
  some x1

def fX7_groupCount (σ : zz_St) : Option (Int32 × zz_St) :=
  (fX7_putTogether σ).bind fun x1 =>
  some ((x1 24 2), x1)

def fX7_requireGroup (σ : zz_St) (group_ : Int32) : Option ((Unit ⊕ String) × zz_St) :=
  (fX7_putTogether σ).bind fun x1 =>
  (if group_ < 0 then
    some true
  else
    if group_ < (x1 24 2) then
      some false
    else
      some true).bind fun b3 =>
  if b3 = true then
    some ((.inr "java/lang/IndexOutOfBoundsException"), x1)
  else
    some ((.inl ()), x1)

def fX7_group (σ : zz_St) (group_ : Int32) : Option ((Int32 ⊕ String) × zz_St) :=
  (fX7_requireGroup σ group_).bind fun x1 =>
  match x1 with
  | (.inl x1, σ4) =>
    (zz_ga (σ4 25) 14 group_).bind fun x5 =>
    some ((.inl x5), σ4)
  | (.inr E3, σ4) =>
    some ((.inr E3), σ4)

def fX7_placeOf_a25_L1 (σ : zz_St) (piece_ : Int32) (count_ : Int32) : Nat → Int32 → Option (Int32 ⊕ (Int32))
  | 0, _ => none
  | n + 1, place_ =>
    (if count_ ≤ place_ then
      some false
    else
      if (14 : Int32) ≤ place_ then
        some false
      else
        some true).bind fun b1 =>
    if b1 = true then
      (zz_ga (σ 25) 14 place_).bind fun x8 =>
      (fX7_isIn σ piece_ x8).bind fun x10 =>
      if x10 = 0 then
        fX7_placeOf_a25_L1 σ piece_ count_ n (place_ + (1 : Int32))
      else
        some (.inl place_)
    else
      some (.inr place_)

def fX7_placeOf_a25 (σ : zz_St) (piece_ : Int32) (count_ : Int32) : Option Int32 :=
  (fX7_placeOf_a25_L1 σ piece_ count_ 1000 (0 : Int32)).bind fun q13 =>
  match q13 with
  | .inl v15 =>
    some v15
  | .inr w16 =>
    some (-1 : Int32)

def fX7_groupOf (σ : zz_St) (piece_ : Int32) : Option ((Int32 ⊕ String) × zz_St) :=
  (fX7_requirePiece σ piece_).bind fun x1 =>
  match x1 with
  | .inl x1 =>
    (fX7_putTogether σ).bind fun x4 =>
    (fX7_placeOf_a25 x4 piece_ (x4 24 2)).bind fun x6 =>
    some ((.inl x6), x4)
  | .inr E3 =>
    some ((.inr E3), σ)

def fX7_linkage (σ : zz_St) (a_ : Int32) (b_ : Int32) : Option ((Int32 ⊕ String) × zz_St) :=
  (fX7_requireGroup σ a_).bind fun x1 =>
  match x1 with
  | (.inl x1, σ4) =>
    (fX7_requireGroup σ4 b_).bind fun x5 =>
    match x5 with
    | (.inl x5, σ8) =>
      if a_ = b_ then
        some ((.inr "java/lang/IllegalArgumentException"), σ8)
      else
        (zz_ga (σ8 25) 14 a_).bind fun x10 =>
        (zz_ga (σ8 25) 14 b_).bind fun x12 =>
        (fX3_linkageOf σ8 x10 x12).bind fun x14 =>
        some ((.inl x14), σ8)
    | (.inr E7, σ8) =>
      some ((.inr E7), σ8)
  | (.inr E3, σ4) =>
    some ((.inr E3), σ4)

def fX7_lastLinkage (σ : zz_St) : Option (Int32 × zz_St) :=
  (fX7_putTogether σ).bind fun x1 =>
  some ((x1 24 3), x1)

def fX7_needs (σ : zz_St) (a_ : Int32) (b_ : Int32) : Option (Int32 ⊕ String) :=
  (fX7_requirePiece σ a_).bind fun x1 =>
  match x1 with
  | .inl x1 =>
    (fX7_requirePiece σ b_).bind fun x4 =>
    match x4 with
    | .inl x4 =>
      (fX7_requireDifferent σ a_ b_).bind fun x7 =>
      match x7 with
      | .inl x7 =>
        (fX5_isNeeded σ a_ b_ (σ 17 0)).bind fun x10 =>
        (zz_bo x10).bind fun x12 =>
        some (.inl x12)
      | .inr E9 =>
        some (.inr E9)
    | .inr E6 =>
      some (.inr E6)
  | .inr E3 =>
    some (.inr E3)

def fX7_parcelCount (σ : zz_St) : Option (Int32 × zz_St) :=
  (fX7_putTogether σ).bind fun x1 =>
  some ((x1 41 0), x1)

def fX7_requireParcel (σ : zz_St) (parcel_ : Int32) : Option ((Unit ⊕ String) × zz_St) :=
  (fX7_putTogether σ).bind fun x1 =>
  (if parcel_ < 0 then
    some true
  else
    if parcel_ < (x1 41 0) then
      some false
    else
      some true).bind fun b3 =>
  if b3 = true then
    some ((.inr "java/lang/IndexOutOfBoundsException"), x1)
  else
    some ((.inl ()), x1)

def fX7_parcel (σ : zz_St) (parcel_ : Int32) : Option ((Int32 ⊕ String) × zz_St) :=
  (fX7_requireParcel σ parcel_).bind fun x1 =>
  match x1 with
  | (.inl x1, σ4) =>
    (zz_ga (σ4 42) 14 parcel_).bind fun x5 =>
    some ((.inl x5), σ4)
  | (.inr E3, σ4) =>
    some ((.inr E3), σ4)

def fX7_placeOf_a42_L1 (σ : zz_St) (piece_ : Int32) (count_ : Int32) : Nat → Int32 → Option (Int32 ⊕ (Int32))
  | 0, _ => none
  | n + 1, place_ =>
    (if count_ ≤ place_ then
      some false
    else
      if (14 : Int32) ≤ place_ then
        some false
      else
        some true).bind fun b1 =>
    if b1 = true then
      (zz_ga (σ 42) 14 place_).bind fun x8 =>
      (fX7_isIn σ piece_ x8).bind fun x10 =>
      if x10 = 0 then
        fX7_placeOf_a42_L1 σ piece_ count_ n (place_ + (1 : Int32))
      else
        some (.inl place_)
    else
      some (.inr place_)

def fX7_placeOf_a42 (σ : zz_St) (piece_ : Int32) (count_ : Int32) : Option Int32 :=
  (fX7_placeOf_a42_L1 σ piece_ count_ 1000 (0 : Int32)).bind fun q13 =>
  match q13 with
  | .inl v15 =>
    some v15
  | .inr w16 =>
    some (-1 : Int32)

def fX7_parcelOf (σ : zz_St) (piece_ : Int32) : Option ((Int32 ⊕ String) × zz_St) :=
  (fX7_requirePiece σ piece_).bind fun x1 =>
  match x1 with
  | .inl x1 =>
    (fX7_putTogether σ).bind fun x4 =>
    (fX7_placeOf_a42 x4 piece_ (x4 41 0)).bind fun x6 =>
    some ((.inl x6), x4)
  | .inr E3 =>
    some ((.inr E3), σ)

def fX7_knots (σ : zz_St) : Option (Int32 × zz_St) :=
  (fX7_putTogether σ).bind fun x1 =>
  some ((x1 41 1), x1)

def fX5_linesOf_L1 (σ : zz_St) (set_ : Int32) : Nat → Int32 → Int32 → Option (Int32 × Int32)
  | 0, _, _ => none
  | n + 1, sum_, piece_ =>
    if (σ 1 0) ≤ piece_ then
      some (sum_, piece_)
    else
      ((fX7_isIn σ piece_ set_).bind fun x5 =>
      if x5 = 0 then
        some sum_
      else
        (zz_ga (σ 4) 14 piece_).bind fun x8 =>
        (zz_ga (σ 5) 14 piece_).bind fun x10 =>
        (some (sum_ + (x8 + x10))).bind fun x12 =>
        some x12).bind fun x2 =>
      fX5_linesOf_L1 σ set_ n x2 (piece_ + (1 : Int32))

def fX5_linesOf (σ : zz_St) (set_ : Int32) : Option Int32 :=
  (fX5_linesOf_L1 σ set_ 1000 (0 : Int32) (0 : Int32)).bind fun q14 =>
  some q14.1

def fX7_lines (σ : zz_St) (parcel_ : Int32) : Option ((Int32 ⊕ String) × zz_St) :=
  (fX7_requireParcel σ parcel_).bind fun x1 =>
  match x1 with
  | (.inl x1, σ4) =>
    (zz_ga (σ4 42) 14 parcel_).bind fun x5 =>
    (fX5_linesOf σ4 x5).bind fun x7 =>
    some ((.inl x7), σ4)
  | (.inr E3, σ4) =>
    some ((.inr E3), σ4)

def fX5_all (σ : zz_St) : Option Int32 :=
  some (((1 : Int32) <<< ((σ 1 0) &&& 31)) - (1 : Int32))

def fX1_brokenBy_L1 (σ : zz_St) (applied_ : Int32) : Nat → Int32 → Int32 → Option (Int32 × Int32)
  | 0, _, _ => none
  | n + 1, found_, name_ =>
    if (16 : Int32) ≤ name_ then
      some (found_, name_)
    else
      (zz_ix 4 (0 : Int32)).bind fun x2 =>
      (zz_ga (σ (13 + x2)) 16 name_).bind fun x4 =>
      (fJ6_bitCount (x4 &&& applied_)).bind fun x6 =>
      (zz_ix 4 (1 : Int32)).bind fun x8 =>
      (zz_ga (σ (13 + x8)) 16 name_).bind fun x10 =>
      (fJ6_bitCount (x10 &&& applied_)).bind fun x12 =>
      (some (((((σ 17 0) >>> (name_ &&& 31)) &&& (1 : Int32)) + x6) - x12)).bind fun x14 =>
      (zz_ga (σ 18) 16 name_).bind fun x16 =>
      (zz_ix 4 (2 : Int32)).bind fun x18 =>
      (zz_ga (σ (13 + x18)) 16 name_).bind fun x20 =>
      (fJ6_bitCount (x20 &&& applied_)).bind fun x22 =>
      (zz_ix 4 (3 : Int32)).bind fun x24 =>
      (zz_ga (σ (13 + x24)) 16 name_).bind fun x26 =>
      (fJ6_bitCount (x26 &&& applied_)).bind fun x28 =>
      (some ((x16 + x22) - x28)).bind fun x30 =>
      ((if (1 : Int32) < x14 then
        some true
      else
        if (1 : Int32) ≤ x14 then
          some false
        else
          if x30 < (1 : Int32) then
            some false
          else
            some true).bind fun b35 =>
      if b35 = true then
        (some (found_ ||| ((1 : Int32) <<< (name_ &&& 31)))).bind fun x43 =>
        some x43
      else
        some found_).bind fun x32 =>
      fX1_brokenBy_L1 σ applied_ n x32 (name_ + (1 : Int32))

def fX1_brokenBy (σ : zz_St) (applied_ : Int32) : Option Int32 :=
  (fX1_brokenBy_L1 σ applied_ 1000 (0 : Int32) (0 : Int32)).bind fun q45 =>
  some q45.1

def fX7_broken (σ : zz_St) (pieces_ : Int32) : Option (Int32 ⊕ String) :=
  (fX5_all σ).bind fun x1 =>
  if (pieces_ &&& (x1 ^^^ (-1 : Int32))) = 0 then
    (fX1_brokenBy σ pieces_).bind fun x4 =>
    some (.inl x4)
  else
    some (.inr "java/lang/IllegalArgumentException")

def fX7_breakageInOrder_L1 (σ : zz_St) : Nat → Int32 → Int32 → Int32 → Option (Int32 × Int32 × Int32)
  | 0, _, _, _ => none
  | n + 1, applied_, sum_, parcel_ =>
    if (σ 41 0) ≤ parcel_ then
      some (applied_, sum_, parcel_)
    else
      (zz_ga (σ 42) 14 parcel_).bind fun x2 =>
      (some (applied_ ||| x2)).bind fun x4 =>
      (fX1_brokenBy σ x4).bind fun x6 =>
      (fJ6_bitCount x6).bind fun x8 =>
      (some (sum_ + x8)).bind fun x10 =>
      fX7_breakageInOrder_L1 σ n x4 x10 (parcel_ + (1 : Int32))

def fX7_breakageInOrder (σ : zz_St) : Option Int32 :=
  (fX7_breakageInOrder_L1 σ 1000 (0 : Int32) (0 : Int32) (0 : Int32)).bind fun q12 =>
  some q12.2.1

def fX7_breakage (σ : zz_St) : Option (Int32 × zz_St) :=
  (fX7_putTogether σ).bind fun x1 =>
  (fX7_breakageInOrder x1).bind fun x3 =>
  some (x3, x1)

def fX0_nextAfter_L1 (σ : zz_St) (chosen_ : Int32) : Nat → Int32 → Int32 → Int32 → Option (Int32 × Int32 × Int32)
  | 0, _, _, _ => none
  | n + 1, found_, leastThen_, parcel_ =>
    if (σ 44 1) ≤ parcel_ then
      some (found_, leastThen_, parcel_)
    else
      (((fX7_isIn σ parcel_ chosen_).bind fun x10 =>
      if x10 = 0 then
        (zz_ga (σ 46) 512 (chosen_ ||| ((1 : Int32) <<< (parcel_ &&& 31)))).bind fun x13 =>
        if leastThen_ ≤ x13 then
          some false
        else
          some true
      else
        some false).bind fun b5 =>
      if b5 = true then
        (zz_ga (σ 46) 512 (chosen_ ||| ((1 : Int32) <<< (parcel_ &&& 31)))).bind fun x16 =>
        some (parcel_, x16)
      else
        some (found_, leastThen_)).bind fun x2 =>
      fX0_nextAfter_L1 σ chosen_ n x2.1 x2.2 (parcel_ + (1 : Int32))

def fX0_nextAfter (σ : zz_St) (chosen_ : Int32) : Option Int32 :=
  (fX0_nextAfter_L1 σ chosen_ 1000 (-1 : Int32) (1000000 : Int32) (0 : Int32)).bind fun q18 =>
  some q18.1

def fX4_piecesIn_L1 (σ : zz_St) (chosen_ : Int32) : Nat → Int32 → Int32 → Option (Int32 × Int32)
  | 0, _, _ => none
  | n + 1, set_, parcel_ =>
    if (σ 41 0) ≤ parcel_ then
      some (set_, parcel_)
    else
      ((fX7_isIn σ parcel_ chosen_).bind fun x5 =>
      if x5 = 0 then
        some (0 : Int32)
      else
        (zz_ga (σ 42) 14 parcel_).bind fun x8 =>
        some x8).bind fun x2 =>
      (some (set_ ||| x2)).bind fun x10 =>
      fX4_piecesIn_L1 σ chosen_ n x10 (parcel_ + (1 : Int32))

def fX4_piecesIn (σ : zz_St) (chosen_ : Int32) : Option Int32 :=
  (fX4_piecesIn_L1 σ chosen_ 1000 (0 : Int32) (0 : Int32)).bind fun q12 =>
  some q12.1

def fX0_walk_L1 : Nat → Int32 → Int32 → zz_St → Option (Int32 × Int32 × zz_St)
  | 0, _, _, _ => none
  | n + 1, chosen_, place_, σ =>
    if (σ 44 1) ≤ place_ then
      some (chosen_, place_, σ)
    else
      (fX0_nextAfter σ chosen_).bind fun x2 =>
      (if x2 < 0 then
        some (chosen_, σ)
      else
        (zz_pa σ 45 9 place_ x2).bind fun σ8 =>
        (some (chosen_ ||| ((1 : Int32) <<< (x2 &&& 31)))).bind fun x10 =>
        some (x10, σ8)).bind fun x4 =>
      fX0_walk_L1 n x4.1 (place_ + (1 : Int32)) x4.2

def fX0_walk (σ : zz_St) : Option zz_St :=
  (fX0_walk_L1 1000 (0 : Int32) (0 : Int32) σ).bind fun q12 =>
  some q12.2.2

def fX0_find_L1 : Nat → Int32 → zz_St → Option (Int32 × zz_St)
  | 0, _, _ => none
  | n + 1, chosen_, σ =>
    if chosen_ < 0 then
      some (chosen_, σ)
    else
      (fX0_nextAfter σ chosen_).bind fun x4 =>
      (if 0 ≤ x4 then
        (zz_ga (σ 46) 512 (chosen_ ||| ((1 : Int32) <<< (x4 &&& 31)))).bind fun x10 =>
        some x10
      else
        some (0 : Int32)).bind fun x6 =>
      (if chosen_ = 0 then
        some (0 : Int32)
      else
        (fX4_piecesIn σ chosen_).bind fun x16 =>
        (fX1_brokenBy σ x16).bind fun x18 =>
        (fJ6_bitCount x18).bind fun x20 =>
        some x20).bind fun x12 =>
      (zz_pa σ 46 512 chosen_ (x12 + x6)).bind fun σ22 =>
      fX0_find_L1 n (chosen_ + (-1 : Int32)) σ22

def fX0_find (σ : zz_St) : Option zz_St :=
  (some (((1 : Int32) <<< (((zz_u σ 44 1 (zz_min (σ 41 0) (9 : Int32))) 44 1) &&& 31)) - (1 : Int32))).bind fun x1 =>
  (fX0_find_L1 1000 x1 (zz_u σ 44 1 (zz_min (σ 41 0) (9 : Int32)))).bind fun q24 =>
  (zz_ga (q24.2 46) 512 (0 : Int32)).bind fun x26 =>
  (fX0_walk (zz_u q24.2 44 0 x26)).bind fun x28 =>
  some x28

def fX7_findBest (σ : zz_St) : Option ((Unit ⊕ String) × zz_St) :=
  (fX7_putTogether σ).bind fun x1 =>
  if (x1 41 0) ≤ (9 : Int32) then
    (if (x1 0 8) = 0 then
      (fX0_find x1).bind fun x8 =>
      some (zz_u x8 0 8 (1 : Int32))
    else
      some x1).bind fun x4 =>
    some ((.inl ()), x4)
  else
    some ((.inr "java/lang/IllegalStateException"), x1)

def fX7_leastBreakage (σ : zz_St) : Option ((Int32 ⊕ String) × zz_St) :=
  (fX7_findBest σ).bind fun x1 =>
  match x1 with
  | (.inl x1, σ4) =>
    some ((.inl (σ4 44 0)), σ4)
  | (.inr E3, σ4) =>
    some ((.inr E3), σ4)

def fX7_best (σ : zz_St) (place_ : Int32) : Option ((Int32 ⊕ String) × zz_St) :=
  (fX7_findBest σ).bind fun x1 =>
  match x1 with
  | (.inl x1, σ4) =>
    (if place_ < 0 then
      some true
    else
      if place_ < (σ4 44 1) then
        some false
      else
        some true).bind fun b5 =>
    if b5 = true then
      some ((.inr "java/lang/IndexOutOfBoundsException"), σ4)
    else
      (zz_ga (σ4 45) 9 place_).bind fun x12 =>
      some ((.inl x12), σ4)
  | (.inr E3, σ4) =>
    some ((.inr E3), σ4)

def fJ6_numberOfTrailingZeros (i_ : Int32) : Option Int32 :=
  (some ((i_ ^^^ (-1 : Int32)) &&& (i_ - (1 : Int32)))).bind fun x1 =>
  if 0 < x1 then
    (if x1 ≤ (65536 : Int32) then
      some (x1, (1 : Int32))
    else
      (some (zz_ushr x1 (16 : Int32))).bind fun x8 =>
      some (x8, ((1 : Int32) + (16 : Int32)))).bind fun x4 =>
    (if x4.1 ≤ (256 : Int32) then
      some (x4.1, x4.2)
    else
      (some (zz_ushr x4.1 (8 : Int32))).bind fun x14 =>
      some (x14, (x4.2 + (8 : Int32)))).bind fun x10 =>
    (if x10.1 ≤ (16 : Int32) then
      some (x10.1, x10.2)
    else
      (some (zz_ushr x10.1 (4 : Int32))).bind fun x20 =>
      some (x20, (x10.2 + (4 : Int32)))).bind fun x16 =>
    (if x16.1 ≤ (4 : Int32) then
      some (x16.1, x16.2)
    else
      (some (zz_ushr x16.1 (2 : Int32))).bind fun x26 =>
      some (x26, (x16.2 + (2 : Int32)))).bind fun x22 =>
    some (x22.2 + (zz_ushr x22.1 (1 : Int32)))
  else
    some (x1 &&& (32 : Int32))


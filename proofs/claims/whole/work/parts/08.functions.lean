/-! the functions of the classes, as their text has them (by program) -/
def fX7_isUpTo (σ : zz_St) (number_ : Int32) (greatest_ : Int32) : Option Int32 :=
  (if number_ < 0 then
    some false
  else
    if greatest_ < number_ then
      some false
    else
      some true).bind fun b1 =>
  some (zz_bi b1)

def fX7_forgetResults (σ : zz_St) : Option zz_St :=
  some (zz_u (zz_u σ 0 7 (0 : Int32)) 0 8 (0 : Int32))

def fX5_append (σ : zz_St) (file_ : Int32) (line_ : Int32) (linesAdded_ : Int32) (linesTaken_ : Int32) : Option (Int32 × zz_St) :=
  if (σ 1 0) < (14 : Int32) then
    (zz_pa σ 2 14 (σ 1 0) file_).bind fun σ2 =>
    (zz_pa σ2 3 14 (σ 1 0) line_).bind fun σ4 =>
    (zz_pa σ4 4 14 (σ 1 0) linesAdded_).bind fun σ6 =>
    (zz_pa σ6 5 14 (σ 1 0) linesTaken_).bind fun σ8 =>
    (zz_pa σ8 6 14 (σ 1 0) (0 : Int32)).bind fun σ10 =>
    some ((σ 1 0), (zz_u σ10 1 0 ((σ 1 0) + (1 : Int32))))
  else
    some ((-1 : Int32), σ)

def fX7_addPiece (σ : zz_St) (file_ : Int32) (line_ : Int32) (added_ : Int32) (taken_ : Int32) : Option ((Int32 ⊕ String) × zz_St) :=
  ((fX7_isUpTo σ file_ (9 : Int32)).bind fun x6 =>
  if x6 = 0 then
    some true
  else
    (fX7_isUpTo σ line_ (9999 : Int32)).bind fun x9 =>
    if x9 = 0 then
      some true
    else
      some false).bind fun b1 =>
  if b1 = true then
    some ((.inr "java/lang/IllegalArgumentException"), σ)
  else
    ((fX7_isUpTo σ added_ (999 : Int32)).bind fun x17 =>
    if x17 = 0 then
      some true
    else
      (fX7_isUpTo σ taken_ (999 : Int32)).bind fun x20 =>
      if x20 = 0 then
        some true
      else
        some false).bind fun b12 =>
    if b12 = true then
      some ((.inr "java/lang/IllegalArgumentException"), σ)
    else
      if (σ 1 0) < (14 : Int32) then
        (fX7_forgetResults σ).bind fun x24 =>
        (fX5_append x24 file_ line_ added_ taken_).bind fun x26 =>
        some ((.inl x26.1), x26.2)
      else
        some ((.inr "java/lang/IllegalStateException"), σ)

def fX5_has (σ : zz_St) (piece_ : Int32) : Option Int32 :=
  (if piece_ < 0 then
    some false
  else
    if (σ 1 0) ≤ piece_ then
      some false
    else
      some true).bind fun b1 =>
  some (zz_bi b1)

def fX7_requirePiece (σ : zz_St) (piece_ : Int32) : Option (Unit ⊕ String) :=
  (fX5_has σ piece_).bind fun x1 =>
  if x1 = 0 then
    some (.inr "java/lang/IndexOutOfBoundsException")
  else
    some (.inl ())

def fX7_requireSet (σ : zz_St) (piece_ : Int32) (what_ : Int32) : Option (Unit ⊕ String) :=
  (fX7_requirePiece σ piece_).bind fun x1 =>
  match x1 with
  | .inl x1 =>
    (if what_ < 0 then
      some true
    else
      if what_ < (4 : Int32) then
        some false
      else
        some true).bind fun b4 =>
    if b4 = true then
      some (.inr "java/lang/IndexOutOfBoundsException")
    else
      some (.inl ())
  | .inr E3 =>
    some (.inr E3)

def fX5_replaceNames_L1 (piece_ : Int32) (what_ : Int32) (names_ : Int32) (before_ : Int32) : Nat → Int32 → zz_St → Option (Int32 × zz_St)
  | 0, _, _ => none
  | n + 1, name_, σ =>
    if (16 : Int32) ≤ name_ then
      some (name_, σ)
    else
      (zz_ix 4 what_).bind fun x10 =>
      (zz_ga (σ (13 + x10)) 16 name_).bind fun x12 =>
      (some (x12 &&& (((1 : Int32) <<< (piece_ &&& 31)) ^^^ (-1 : Int32)))).bind fun x14 =>
      (zz_ix 4 what_).bind fun x16 =>
      (zz_pa σ (13 + x16) 16 name_ (x14 ||| (((names_ >>> (name_ &&& 31)) &&& (1 : Int32)) <<< (piece_ &&& 31)))).bind fun σ18 =>
      fX5_replaceNames_L1 piece_ what_ names_ before_ n (name_ + (1 : Int32)) σ18

def fX5_replaceNames (σ : zz_St) (piece_ : Int32) (what_ : Int32) (names_ : Int32) : Option (Int32 × zz_St) :=
  (zz_ix 4 what_).bind fun x1 =>
  (zz_ga (σ (8 + x1)) 14 piece_).bind fun x3 =>
  (zz_ix 4 what_).bind fun x5 =>
  (zz_pa σ (8 + x5) 14 piece_ names_).bind fun σ7 =>
  (fX5_replaceNames_L1 piece_ what_ names_ x3 1000 (0 : Int32) σ7).bind fun q20 =>
  some (x3, q20.2)

def fX7_setNames (σ : zz_St) (piece_ : Int32) (what_ : Int32) (names_ : Int32) : Option ((Int32 ⊕ String) × zz_St) :=
  (fX7_requireSet σ piece_ what_).bind fun x1 =>
  match x1 with
  | .inl x1 =>
    (fX7_isUpTo σ names_ (65535 : Int32)).bind fun x4 =>
    if x4 = 0 then
      some ((.inr "java/lang/IllegalArgumentException"), σ)
    else
      (fX7_forgetResults σ).bind fun x7 =>
      (fX5_replaceNames x7 piece_ what_ names_).bind fun x9 =>
      some ((.inl x9.1), x9.2)
  | .inr E3 =>
    some ((.inr E3), σ)

def fX7_names (σ : zz_St) (piece_ : Int32) (what_ : Int32) : Option (Int32 ⊕ String) :=
  (fX7_requireSet σ piece_ what_).bind fun x1 =>
  match x1 with
  | .inl x1 =>
    (zz_ix 4 what_).bind fun x4 =>
    (zz_ga (σ (8 + x4)) 14 piece_).bind fun x6 =>
    some (.inl x6)
  | .inr E3 =>
    some (.inr E3)

def fX7_isIn (σ : zz_St) (element_ : Int32) (set_ : Int32) : Option Int32 :=
  (if ((set_ >>> (element_ &&& 31)) &&& (1 : Int32)) = (1 : Int32) then
    some true
  else
    some false).bind fun b1 =>
  some (zz_bi b1)

def fX1_learn (σ : zz_St) (name_ : Int32) (isDefined_ : Int32) (uses_ : Int32) : Option (Int32 × zz_St) :=
  ((fX7_isIn σ name_ (σ 17 0)).bind fun x4 =>
  if isDefined_ = x4 then
    (zz_ga (σ 18) 16 name_).bind fun x7 =>
    if uses_ = x7 then
      some false
    else
      some true
  else
    some true).bind fun b1 =>
  (some (zz_bi b1)).bind fun x10 =>
  (if isDefined_ = 0 then
    some ((σ 17 0) &&& (((1 : Int32) <<< (name_ &&& 31)) ^^^ (-1 : Int32)))
  else
    some ((σ 17 0) ||| ((1 : Int32) <<< (name_ &&& 31)))).bind fun x12 =>
  (zz_pa (zz_u σ 17 0 x12) 18 16 name_ uses_).bind fun σ16 =>
  (zz_bo x10).bind fun x18 =>
  some (x18, σ16)

def fX7_setName (σ : zz_St) (name_ : Int32) (isDefined_ : Int32) (uses_ : Int32) : Option ((Int32 ⊕ String) × zz_St) :=
  (if name_ < 0 then
    some true
  else
    if name_ < (16 : Int32) then
      some false
    else
      some true).bind fun b1 =>
  if b1 = true then
    some ((.inr "java/lang/IndexOutOfBoundsException"), σ)
  else
    (fX7_isUpTo σ uses_ (9 : Int32)).bind fun x8 =>
    if x8 = 0 then
      some ((.inr "java/lang/IllegalArgumentException"), σ)
    else
      (fX7_forgetResults σ).bind fun x11 =>
      (fX1_learn x11 name_ isDefined_ uses_).bind fun x13 =>
      (zz_bo x13.1).bind fun x15 =>
      some ((.inl x15), x13.2)

def fX5_removeLast_L1 : Nat → Int32 → zz_St → Option (Int32 × zz_St)
  | 0, _, _ => none
  | n + 1, what_, σ =>
    if (4 : Int32) ≤ what_ then
      some (what_, σ)
    else
      (fX5_replaceNames σ ((σ 1 0) - (1 : Int32)) what_ (0 : Int32)).bind fun x3 =>
      fX5_removeLast_L1 n (what_ + (1 : Int32)) x3.2

def fX5_removeLast (σ : zz_St) : Option zz_St :=
  if 0 < (σ 1 0) then
    (fX5_removeLast_L1 1000 (0 : Int32) σ).bind fun q5 =>
    some (zz_u q5.2 1 0 ((q5.2 1 0) - (1 : Int32)))
  else
    some σ

def fX6_putOneWay (σ : zz_St) (from_ : Int32) (to_ : Int32) (what_ : Int32) : Option zz_St :=
  (some (((1 : Int32) <<< (to_ &&& 31)) ^^^ (-1 : Int32))).bind fun x1 =>
  (zz_ga (σ 22) 14 from_).bind fun x3 =>
  (if what_ = (1 : Int32) then
    some ((1 : Int32) <<< (to_ &&& 31))
  else
    some (0 : Int32)).bind fun x5 =>
  (zz_pa σ 22 14 from_ ((x3 &&& x1) ||| x5)).bind fun σ9 =>
  (zz_ga (σ9 23) 14 from_).bind fun x11 =>
  (if what_ = (2 : Int32) then
    some ((1 : Int32) <<< (to_ &&& 31))
  else
    some (0 : Int32)).bind fun x13 =>
  (zz_pa σ9 23 14 from_ ((x11 &&& x1) ||| x13)).bind fun σ17 =>
  some σ17

def fX6_forgetPiece_L1 (piece_ : Int32) : Nat → Int32 → zz_St → Option (Int32 × zz_St)
  | 0, _, _ => none
  | n + 1, other_, σ =>
    if (14 : Int32) ≤ other_ then
      some (other_, σ)
    else
      (fX6_putOneWay σ other_ piece_ (0 : Int32)).bind fun x2 =>
      (if other_ = piece_ then
        (zz_pa x2 22 14 other_ (0 : Int32)).bind fun σ8 =>
        (zz_pa σ8 23 14 other_ (0 : Int32)).bind fun σ10 =>
        some σ10
      else
        some x2).bind fun x4 =>
      fX6_forgetPiece_L1 piece_ n (other_ + (1 : Int32)) x4

def fX6_forgetPiece (σ : zz_St) (piece_ : Int32) : Option zz_St :=
  (fX6_forgetPiece_L1 piece_ 1000 (0 : Int32) σ).bind fun q12 =>
  some q12.2

def fX7_dropPiece (σ : zz_St) : Option ((Int32 ⊕ String) × zz_St) :=
  if 0 < (σ 1 0) then
    (fX7_forgetResults σ).bind fun x2 =>
    (fX5_removeLast x2).bind fun x4 =>
    (fX6_forgetPiece x4 (x4 1 0)).bind fun x6 =>
    some ((.inl (x6 1 0)), x6)
  else
    some ((.inr "java/lang/IllegalStateException"), σ)

def fX7_pieceCount (σ : zz_St) : Option Int32 :=
  some (σ 1 0)

def fX7_requireKind (σ : zz_St) (kind_ : Int32) : Option (Unit ⊕ String) :=
  (if kind_ < 0 then
    some true
  else
    if kind_ < (4 : Int32) then
      some false
    else
      some true).bind fun b1 =>
  if b1 = true then
    some (.inr "java/lang/IndexOutOfBoundsException")
  else
    some (.inl ())

def fX7_setWeight (σ : zz_St) (kind_ : Int32) (weight_ : Int32) : Option ((Int32 ⊕ String) × zz_St) :=
  (fX7_requireKind σ kind_).bind fun x1 =>
  match x1 with
  | .inl x1 =>
    (fX7_isUpTo σ weight_ (50 : Int32)).bind fun x4 =>
    if x4 = 0 then
      some ((.inr "java/lang/IllegalArgumentException"), σ)
    else
      (fX7_forgetResults σ).bind fun x7 =>
      (zz_ga (x7 20) 4 kind_).bind fun x9 =>
      (zz_pa x7 20 4 kind_ weight_).bind fun σ11 =>
      some ((.inl x9), σ11)
  | .inr E3 =>
    some ((.inr E3), σ)

def fX7_setSpan (σ : zz_St) (span_ : Int32) : Option ((Int32 ⊕ String) × zz_St) :=
  (fX7_isUpTo σ span_ (999 : Int32)).bind fun x1 =>
  if x1 = 0 then
    some ((.inr "java/lang/IllegalArgumentException"), σ)
  else
    (fX7_forgetResults σ).bind fun x4 =>
    (some (x4 19 1)).bind fun x6 =>
    some ((.inl x6), (zz_u x4 19 1 span_))

def fX7_requireDifferent (σ : zz_St) (a_ : Int32) (b_ : Int32) : Option (Unit ⊕ String) :=
  if a_ = b_ then
    some (.inr "java/lang/IllegalArgumentException")
  else
    some (.inl ())

def fX2_isNear (σ : zz_St) (a_ : Int32) (b_ : Int32) : Option Int32 :=
  ((zz_ga (σ 2) 14 a_).bind fun x4 =>
  (zz_ga (σ 2) 14 b_).bind fun x6 =>
  if x4 = x6 then
    (zz_ga (σ 3) 14 a_).bind fun x9 =>
    (zz_ga (σ 3) 14 b_).bind fun x11 =>
    if (σ 19 1) < (zz_abs (x9 - x11)) then
      some false
    else
      some true
  else
    some false).bind fun b1 =>
  some (zz_bi b1)

def fJ6_bitCount (i_ : Int32) : Option Int32 :=
  (some (i_ - ((zz_ushr i_ (1 : Int32)) &&& (1431655765 : Int32)))).bind fun x1 =>
  (some ((x1 &&& (858993459 : Int32)) + ((zz_ushr x1 (2 : Int32)) &&& (858993459 : Int32)))).bind fun x3 =>
  (some ((x3 + (zz_ushr x3 (4 : Int32))) &&& (252645135 : Int32))).bind fun x5 =>
  (some (x5 + (zz_ushr x5 (8 : Int32)))).bind fun x7 =>
  (some (x7 + (zz_ushr x7 (16 : Int32)))).bind fun x9 =>
  some (x9 &&& (63 : Int32))

def fX5_crossings (σ : zz_St) (a_ : Int32) (b_ : Int32) (what_ : Int32) (opposite_ : Int32) : Option Int32 :=
  (zz_ix 4 what_).bind fun x1 =>
  (zz_ga (σ (8 + x1)) 14 a_).bind fun x3 =>
  (zz_ix 4 opposite_).bind fun x5 =>
  (zz_ga (σ (8 + x5)) 14 b_).bind fun x7 =>
  (fJ6_bitCount (x3 &&& x7)).bind fun x9 =>
  (zz_ix 4 what_).bind fun x11 =>
  (zz_ga (σ (8 + x11)) 14 b_).bind fun x13 =>
  (zz_ix 4 opposite_).bind fun x15 =>
  (zz_ga (σ (8 + x15)) 14 a_).bind fun x17 =>
  (fJ6_bitCount (x13 &&& x17)).bind fun x19 =>
  some (x9 + x19)

def fX5_everyNameOf (σ : zz_St) (piece_ : Int32) : Option Int32 :=
  (zz_ix 4 (0 : Int32)).bind fun x1 =>
  (zz_ga (σ (8 + x1)) 14 piece_).bind fun x3 =>
  (zz_ix 4 (1 : Int32)).bind fun x5 =>
  (zz_ga (σ (8 + x5)) 14 piece_).bind fun x7 =>
  (zz_ix 4 (2 : Int32)).bind fun x9 =>
  (zz_ga (σ (8 + x9)) 14 piece_).bind fun x11 =>
  (zz_ix 4 (3 : Int32)).bind fun x13 =>
  (zz_ga (σ (8 + x13)) 14 piece_).bind fun x15 =>
  some (((x3 ||| x7) ||| x11) ||| x15)

def fX2_shareOf (σ : zz_St) (weight_ : Int32) (namesOfOne_ : Int32) (namesOfOther_ : Int32) : Option Int32 :=
  (fJ6_bitCount (namesOfOne_ ||| namesOfOther_)).bind fun x1 =>
  (if x1 = 0 then
    some (0 : Int32)
  else
    (fJ6_bitCount (namesOfOne_ &&& namesOfOther_)).bind fun x7 =>
    (zz_dv (weight_ * x7) x1).bind fun x9 =>
    some x9).bind fun x3 =>
  some x3

def fX2_pointsBy (σ : zz_St) (kind_ : Int32) (a_ : Int32) (b_ : Int32) : Option Int32 :=
  if kind_ = (0 : Int32) then
    ((fX2_isNear σ a_ b_).bind fun x5 =>
    if x5 = 0 then
      some (0 : Int32)
    else
      (zz_ga (σ 20) 4 (0 : Int32)).bind fun x8 =>
      some x8).bind fun x2 =>
    some x2
  else
    if kind_ = (1 : Int32) then
      (zz_ga (σ 20) 4 (1 : Int32)).bind fun x11 =>
      (fX5_crossings σ a_ b_ (0 : Int32) (2 : Int32)).bind fun x13 =>
      some (x11 * x13)
    else
      if kind_ = (2 : Int32) then
        (zz_ga (σ 20) 4 (2 : Int32)).bind fun x16 =>
        (fX5_crossings σ a_ b_ (1 : Int32) (0 : Int32)).bind fun x18 =>
        some (x16 * x18)
      else
        if kind_ = (3 : Int32) then
          (zz_ga (σ 20) 4 (3 : Int32)).bind fun x21 =>
          (fX5_everyNameOf σ a_).bind fun x23 =>
          (fX5_everyNameOf σ b_).bind fun x25 =>
          (fX2_shareOf σ x21 x23 x25).bind fun x27 =>
          some x27
        else
          some (0 : Int32)

def fX7_points (σ : zz_St) (a_ : Int32) (b_ : Int32) (kind_ : Int32) : Option (Int32 ⊕ String) :=
  (fX7_requirePiece σ a_).bind fun x1 =>
  match x1 with
  | .inl x1 =>
    (fX7_requirePiece σ b_).bind fun x4 =>
    match x4 with
    | .inl x4 =>
      (fX7_requireKind σ kind_).bind fun x7 =>
      match x7 with
      | .inl x7 =>
        (fX7_requireDifferent σ a_ b_).bind fun x10 =>
        match x10 with
        | .inl x10 =>
          (fX2_pointsBy σ kind_ a_ b_).bind fun x13 =>
          some (.inl x13)
        | .inr E12 =>
          some (.inr E12)
      | .inr E9 =>
        some (.inr E9)
    | .inr E6 =>
      some (.inr E6)
  | .inr E3 =>
    some (.inr E3)

def fX2_sumOfPoints_L1 (σ : zz_St) (a_ : Int32) (b_ : Int32) : Nat → Int32 → Int32 → Option (Int32 × Int32)
  | 0, _, _ => none
  | n + 1, sum_, kind_ =>
    if (4 : Int32) ≤ kind_ then
      some (sum_, kind_)
    else
      (fX2_pointsBy σ kind_ a_ b_).bind fun x2 =>
      (some (sum_ + x2)).bind fun x4 =>
      fX2_sumOfPoints_L1 σ a_ b_ n x4 (kind_ + (1 : Int32))

def fX2_sumOfPoints (σ : zz_St) (a_ : Int32) (b_ : Int32) : Option Int32 :=
  (fX2_sumOfPoints_L1 σ a_ b_ 1000 (0 : Int32) (0 : Int32)).bind fun q6 =>
  some q6.1

def fX7_affinity (σ : zz_St) (a_ : Int32) (b_ : Int32) : Option (Int32 ⊕ String) :=
  (fX7_requirePiece σ a_).bind fun x1 =>
  match x1 with
  | .inl x1 =>
    (fX7_requirePiece σ b_).bind fun x4 =>
    match x4 with
    | .inl x4 =>
      (fX7_requireDifferent σ a_ b_).bind fun x7 =>
      match x7 with
      | .inl x7 =>
        (fX2_sumOfPoints σ a_ b_).bind fun x10 =>
        some (.inl x10)
      | .inr E9 =>
        some (.inr E9)
    | .inr E6 =>
      some (.inr E6)
  | .inr E3 =>
    some (.inr E3)

def fX7_closest_L1 (σ : zz_St) (piece_ : Int32) : Nat → Int32 → Int32 → Int32 → Option (Int32 × Int32 × Int32)
  | 0, _, _, _ => none
  | n + 1, found_, greatest_, other_ =>
    if (σ 1 0) ≤ other_ then
      some (found_, greatest_, other_)
    else
      (if other_ = piece_ then
        some (-1 : Int32)
      else
        (fX2_sumOfPoints σ piece_ other_).bind fun x9 =>
        some x9).bind fun x5 =>
      (if x5 ≤ greatest_ then
        some (found_, greatest_)
      else
        some (other_, x5)).bind fun x11 =>
      fX7_closest_L1 σ piece_ n x11.1 x11.2 (other_ + (1 : Int32))

def fX7_closest (σ : zz_St) (piece_ : Int32) : Option (Int32 ⊕ String) :=
  (fX7_requirePiece σ piece_).bind fun x1 =>
  match x1 with
  | .inl x1 =>
    (fX7_closest_L1 σ piece_ 1000 (-1 : Int32) (-1 : Int32) (0 : Int32)).bind fun q15 =>
    some (.inl q15.1)
  | .inr E3 =>
    some (.inr E3)

def fX7_setThreshold (σ : zz_St) (threshold_ : Int32) : Option ((Int32 ⊕ String) × zz_St) :=
  (if threshold_ < (1 : Int32) then
    some true
  else
    if threshold_ ≤ (999 : Int32) then
      some false
    else
      some true).bind fun b1 =>
  if b1 = true then
    some ((.inr "java/lang/IllegalArgumentException"), σ)
  else
    (fX7_forgetResults σ).bind fun x8 =>
    (some (x8 24 0)).bind fun x10 =>
    some ((.inl x10), (zz_u x8 24 0 threshold_))

def fX7_setManner (σ : zz_St) (manner_ : Int32) : Option ((Int32 ⊕ String) × zz_St) :=
  (fX7_isUpTo σ manner_ (2 : Int32)).bind fun x1 =>
  if x1 = 0 then
    some ((.inr "java/lang/IllegalArgumentException"), σ)
  else
    (fX7_forgetResults σ).bind fun x4 =>
    (some (x4 24 1)).bind fun x6 =>
    some ((.inl x6), (zz_u x4 24 1 manner_))

def fX6_saidOf (σ : zz_St) (a_ : Int32) (b_ : Int32) : Option Int32 :=
  (zz_ga (σ 22) 14 a_).bind fun x1 =>
  (fX7_isIn σ b_ x1).bind fun x3 =>
  if x3 = 0 then
    ((zz_ga (σ 23) 14 a_).bind fun x9 =>
    (fX7_isIn σ b_ x9).bind fun x11 =>
    if x11 = 0 then
      some (0 : Int32)
    else
      some (2 : Int32)).bind fun x6 =>
    some x6
  else
    some (1 : Int32)

def fX6_put (σ : zz_St) (a_ : Int32) (b_ : Int32) (what_ : Int32) : Option zz_St :=
  (fX6_putOneWay σ a_ b_ what_).bind fun x1 =>
  (fX6_putOneWay x1 b_ a_ what_).bind fun x3 =>
  some x3

def fX6_joinedTo_L2 (σ : zz_St) (piece_ : Int32) (before_ : Int32) (round_ : Int32) : Nat → Int32 → Int32 → Option (Int32 × Int32)
  | 0, _, _ => none
  | n + 1, joined_, other_ =>
    if (14 : Int32) ≤ other_ then
      some (joined_, other_)
    else
      ((fX7_isIn σ other_ joined_).bind fun x14 =>
      if x14 = 0 then
        some (0 : Int32)
      else
        (zz_ga (σ 22) 14 other_).bind fun x17 =>
        some x17).bind fun x11 =>
      (some (joined_ ||| x11)).bind fun x19 =>
      fX6_joinedTo_L2 σ piece_ before_ round_ n x19 (other_ + (1 : Int32))

def fX6_joinedTo_L1 (σ : zz_St) (piece_ : Int32) : Nat → Int32 → Int32 → Int32 → Option (Int32 × Int32 × Int32)
  | 0, _, _, _ => none
  | n + 1, joined_, before_, round_ =>
    (if (14 : Int32) ≤ round_ then
      some false
    else
      if joined_ = before_ then
        some false
      else
        some true).bind fun b3 =>
    if b3 = true then
      (fX6_joinedTo_L2 σ piece_ joined_ round_ 1000 joined_ (0 : Int32)).bind fun q21 =>
      fX6_joinedTo_L1 σ piece_ n q21.1 joined_ (round_ + (1 : Int32))
    else
      some (joined_, before_, round_)

def fX6_joinedTo (σ : zz_St) (piece_ : Int32) : Option Int32 :=
  (some ((1 : Int32) <<< (piece_ &&& 31))).bind fun x1 =>
  (fX6_joinedTo_L1 σ piece_ 1000 x1 (0 : Int32) (0 : Int32)).bind fun q23 =>
  some q23.1

def fX6_isContradiction_L1 (σ : zz_St) : Nat → Int32 → Option (Int32 ⊕ (Int32))
  | 0, _ => none
  | n + 1, piece_ =>
    if (14 : Int32) ≤ piece_ then
      some (.inr piece_)
    else
      ((zz_ga (σ 23) 14 piece_).bind fun x7 =>
      if x7 = 0 then
        some false
      else
        (fX6_joinedTo σ piece_).bind fun x10 =>
        (zz_ga (σ 23) 14 piece_).bind fun x12 =>
        if (x10 &&& x12) = 0 then
          some false
        else
          some true).bind fun b2 =>
      if b2 = true then
        some (.inl (1 : Int32))
      else
        fX6_isContradiction_L1 σ n (piece_ + (1 : Int32))

def fX6_isContradiction (σ : zz_St) : Option Int32 :=
  (fX6_isContradiction_L1 σ 1000 (0 : Int32)).bind fun q15 =>
  match q15 with
  | .inl v17 =>
    (zz_bo v17).bind fun x20 =>
    some x20
  | .inr w18 =>
    some (0 : Int32)

def fX7_say (σ : zz_St) (a_ : Int32) (b_ : Int32) (what_ : Int32) : Option ((Int32 ⊕ String) × zz_St) :=
  (fX7_requirePiece σ a_).bind fun x1 =>
  match x1 with
  | .inl x1 =>
    (fX7_requirePiece σ b_).bind fun x4 =>
    match x4 with
    | .inl x4 =>
      (fX7_requireDifferent σ a_ b_).bind fun x7 =>
      match x7 with
      | .inl x7 =>
        (fX7_isUpTo σ what_ (2 : Int32)).bind fun x10 =>
        if x10 = 0 then
          some ((.inr "java/lang/IllegalArgumentException"), σ)
        else
          (fX6_saidOf σ a_ b_).bind fun x13 =>
          (fX6_put σ a_ b_ what_).bind fun x15 =>
          (fX6_isContradiction x15).bind fun x17 =>
          if x17 = 0 then
            (fX7_forgetResults x15).bind fun x20 =>
            some ((.inl x13), x20)
          else
            (fX6_put x15 a_ b_ x13).bind fun x22 =>
            some ((.inr "java/lang/IllegalStateException"), x22)
      | .inr E9 =>
        some ((.inr E9), σ)
    | .inr E6 =>
      some ((.inr E6), σ)
  | .inr E3 =>
    some ((.inr E3), σ)

def fX3_weighAll_L2 (b_ : Int32) : Nat → Int32 → zz_St → Option (Int32 × zz_St)
  | 0, _, _ => none
  | n + 1, a_, σ =>
    if b_ ≤ a_ then
      some (a_, σ)
    else
      (fX2_sumOfPoints σ a_ b_).bind fun x3 =>
      (zz_ix 14 a_).bind fun x5 =>
      (zz_pa σ (27 + x5) 14 b_ x3).bind fun σ7 =>
      (zz_ix 14 b_).bind fun x9 =>
      (zz_pa σ7 (27 + x9) 14 a_ x3).bind fun σ11 =>
      fX3_weighAll_L2 b_ n (a_ + (1 : Int32)) σ11

def fX3_weighAll_L1 : Nat → Int32 → zz_St → Option (Int32 × zz_St)
  | 0, _, _ => none
  | n + 1, b_, σ =>
    if (σ 1 0) ≤ b_ then
      some (b_, σ)
    else
      (fX3_weighAll_L2 b_ 1000 (0 : Int32) σ).bind fun q13 =>
      fX3_weighAll_L1 n (b_ + (1 : Int32)) q13.2

def fX3_weighAll (σ : zz_St) : Option zz_St :=
  (fX3_weighAll_L1 1000 (1 : Int32) σ).bind fun q15 =>
  some q15.2

def fX3_joinWhatMust_L1 (pieceTotal_ : Int32) : Nat → Int32 → zz_St → Option (Int32 × zz_St)
  | 0, _, _ => none
  | n + 1, piece_, σ =>
    (if pieceTotal_ ≤ piece_ then
      some false
    else
      if (14 : Int32) ≤ piece_ then
        some false
      else
        some true).bind fun b1 =>
    if b1 = true then
      (fX6_joinedTo σ piece_).bind fun x8 =>
      (if (x8 &&& (((1 : Int32) <<< (piece_ &&& 31)) - (1 : Int32))) = 0 then
        some true
      else
        some false).bind fun b10 =>
      (some (zz_bi b10)).bind fun x14 =>
      (if x14 = 0 then
        some σ
      else
        (zz_pa σ 25 14 (σ 24 2) x8).bind fun σ20 =>
        some (zz_u σ20 24 2 ((σ20 24 2) + (1 : Int32)))).bind fun x16 =>
      fX3_joinWhatMust_L1 pieceTotal_ n (piece_ + (1 : Int32)) x16
    else
      some (piece_, σ)

def fX3_joinWhatMust (σ : zz_St) (pieceTotal_ : Int32) : Option zz_St :=
  (fX3_joinWhatMust_L1 pieceTotal_ 1000 (0 : Int32) (zz_u σ 24 2 (0 : Int32))).bind fun q22 =>
  some q22.2

def fX6_isForbidden_L1 (σ : zz_St) (set_ : Int32) (otherSet_ : Int32) : Nat → Int32 → Option (Int32 ⊕ (Int32))
  | 0, _ => none
  | n + 1, piece_ =>
    if (14 : Int32) ≤ piece_ then
      some (.inr piece_)
    else
      ((fX7_isIn σ piece_ set_).bind fun x7 =>
      if x7 = 0 then
        some false
      else
        (zz_ga (σ 23) 14 piece_).bind fun x10 =>
        if (x10 &&& otherSet_) = 0 then
          some false
        else
          some true).bind fun b2 =>
      if b2 = true then
        some (.inl (1 : Int32))
      else
        fX6_isForbidden_L1 σ set_ otherSet_ n (piece_ + (1 : Int32))

def fX6_isForbidden (σ : zz_St) (set_ : Int32) (otherSet_ : Int32) : Option Int32 :=
  (fX6_isForbidden_L1 σ set_ otherSet_ 1000 (0 : Int32)).bind fun q13 =>
  match q13 with
  | .inl v15 =>
    (zz_bo v15).bind fun x18 =>
    some x18
  | .inr w16 =>
    some (0 : Int32)

def fX3_linkageOf_L2 (σ : zz_St) (set_ : Int32) (otherSet_ : Int32) (a_ : Int32) : Nat → Int32 → Int32 → Int32 → Int32 → Option (Int32 × Int32 × Int32 × Int32)
  | 0, _, _, _, _ => none
  | n + 1, greatest_, least_, sum_, b_ =>
    (if (14 : Int32) ≤ b_ then
      some false
    else
      (fX7_isIn σ a_ set_).bind fun x8 =>
      if x8 = 0 then
        some false
      else
        some true).bind fun b2 =>
    if b2 = true then
      ((fX7_isIn σ b_ otherSet_).bind fun x14 =>
      if x14 = 0 then
        some (greatest_, least_, sum_)
      else
        (zz_ix 14 a_).bind fun x17 =>
        (zz_ga (σ (27 + x17)) 14 b_).bind fun x19 =>
        (some (zz_max greatest_ x19)).bind fun x21 =>
        (zz_ix 14 a_).bind fun x23 =>
        (zz_ga (σ (27 + x23)) 14 b_).bind fun x25 =>
        (some (zz_min least_ x25)).bind fun x27 =>
        (zz_ix 14 a_).bind fun x29 =>
        (zz_ga (σ (27 + x29)) 14 b_).bind fun x31 =>
        (some (sum_ + x31)).bind fun x33 =>
        some (x21, x27, x33)).bind fun x11 =>
      fX3_linkageOf_L2 σ set_ otherSet_ a_ n x11.1 x11.2.1 x11.2.2 (b_ + (1 : Int32))
    else
      some (greatest_, least_, sum_, b_)

def fX3_linkageOf_L1 (σ : zz_St) (set_ : Int32) (otherSet_ : Int32) : Nat → Int32 → Int32 → Int32 → Int32 → Option (Int32 × Int32 × Int32 × Int32)
  | 0, _, _, _, _ => none
  | n + 1, greatest_, least_, sum_, a_ =>
    if (14 : Int32) ≤ a_ then
      some (greatest_, least_, sum_, a_)
    else
      (fX3_linkageOf_L2 σ set_ otherSet_ a_ 1000 greatest_ least_ sum_ (0 : Int32)).bind fun q35 =>
      fX3_linkageOf_L1 σ set_ otherSet_ n q35.1 q35.2.1 q35.2.2.1 (a_ + (1 : Int32))

def fX3_linkageOf (σ : zz_St) (set_ : Int32) (otherSet_ : Int32) : Option Int32 :=
  (fX3_linkageOf_L1 σ set_ otherSet_ 1000 (0 : Int32) (1000000 : Int32) (0 : Int32) (0 : Int32)).bind fun q37 =>
  (fJ6_bitCount set_).bind fun x39 =>
  (fJ6_bitCount otherSet_).bind fun x41 =>
  (some (x39 * x41)).bind fun x43 =>
  if x43 = 0 then
    some (0 : Int32)
  else
    if (σ 24 1) = (1 : Int32) then
      (zz_dv q37.2.2.1 x43).bind fun x51 =>
      some x51
    else
      (if (σ 24 1) = 0 then
        some q37.1
      else
        some q37.2.1).bind fun x47 =>
      some x47

def fX3_join_L1 (first_ : Int32) (second_ : Int32) : Nat → Int32 → zz_St → Option (Int32 × zz_St)
  | 0, _, _ => none
  | n + 1, later_, σ =>
    if (σ 24 2) ≤ later_ then
      some (later_, σ)
    else
      (zz_ga (σ 25) 14 later_).bind fun x10 =>
      (zz_pa σ 25 14 (later_ - (1 : Int32)) x10).bind fun σ12 =>
      fX3_join_L1 first_ second_ n (later_ + (1 : Int32)) σ12

def fX3_join (σ : zz_St) (first_ : Int32) (second_ : Int32) : Option zz_St :=
  (zz_ga (σ 25) 14 first_).bind fun x1 =>
  (zz_ga (σ 25) 14 second_).bind fun x3 =>
  (zz_pa σ 25 14 first_ (x1 ||| x3)).bind fun σ5 =>
  (some (second_ + (1 : Int32))).bind fun x7 =>
  (fX3_join_L1 first_ second_ 1000 x7 σ5).bind fun q14 =>
  some (zz_u q14.2 24 2 ((q14.2 24 2) - (1 : Int32)))

def fX3_joinNearest_L2 (σ : zz_St) (a_ : Int32) : Nat → Int32 → Int32 → Int32 → Int32 → Option (Int32 × Int32 × Int32 × Int32)
  | 0, _, _, _, _ => none
  | n + 1, greatest_, first_, second_, b_ =>
    if (σ 24 2) ≤ b_ then
      some (greatest_, first_, second_, b_)
    else
      ((zz_ga (σ 25) 14 a_).bind fun x8 =>
      (zz_ga (σ 25) 14 b_).bind fun x10 =>
      (fX6_isForbidden σ x8 x10).bind fun x12 =>
      if x12 = 0 then
        (zz_ga (σ 25) 14 a_).bind fun x15 =>
        (zz_ga (σ 25) 14 b_).bind fun x17 =>
        (fX3_linkageOf σ x15 x17).bind fun x19 =>
        some x19
      else
        some (-1 : Int32)).bind fun x5 =>
      (if x5 ≤ greatest_ then
        some (greatest_, first_, second_)
      else
        some (x5, a_, b_)).bind fun x21 =>
      fX3_joinNearest_L2 σ a_ n x21.1 x21.2.1 x21.2.2 (b_ + (1 : Int32))

def fX3_joinNearest_L1 (σ : zz_St) : Nat → Int32 → Int32 → Int32 → Int32 → Option (Int32 × Int32 × Int32 × Int32)
  | 0, _, _, _, _ => none
  | n + 1, greatest_, first_, second_, a_ =>
    if (σ 24 2) ≤ a_ then
      some (greatest_, first_, second_, a_)
    else
      (some (a_ + (1 : Int32))).bind fun x2 =>
      (fX3_joinNearest_L2 σ a_ 1000 greatest_ first_ second_ x2).bind fun q25 =>
      fX3_joinNearest_L1 σ n q25.1 q25.2.1 q25.2.2.1 (a_ + (1 : Int32))

def fX3_joinNearest (σ : zz_St) : Option (Int32 × zz_St) :=
  (fX3_joinNearest_L1 σ 1000 (-1 : Int32) (0 : Int32) (0 : Int32) (0 : Int32)).bind fun q27 =>
  if (σ 24 0) ≤ q27.1 then
    (fX3_join σ q27.2.1 q27.2.2.1).bind fun x30 =>
    some ((1 : Int32), (zz_u x30 24 3 q27.1))
  else
    some ((0 : Int32), σ)

def fX3_build_L1 (pieceTotal_ : Int32) : Nat → Int32 → Int32 → zz_St → Option (Int32 × Int32 × zz_St)
  | 0, _, _, _ => none
  | n + 1, isJoined_, round_, σ =>
    (if (14 : Int32) ≤ round_ then
      some false
    else
      if isJoined_ = 0 then
        some false
      else
        some true).bind fun b3 =>
    if b3 = true then
      (fX3_joinNearest σ).bind fun x10 =>
      fX3_build_L1 pieceTotal_ n x10.1 (round_ + (1 : Int32)) x10.2
    else
      some (isJoined_, round_, σ)

def fX3_build (σ : zz_St) (pieceTotal_ : Int32) : Option zz_St :=
  (fX3_joinWhatMust σ pieceTotal_).bind fun x1 =>
  (fX3_build_L1 pieceTotal_ 1000 (1 : Int32) (0 : Int32) (zz_u x1 24 3 (-1 : Int32))).bind fun q12 =>
  some q12.2.2

def fX5_isNeeded (σ : zz_St) (piece_ : Int32) (ahead_ : Int32) (definedNames_ : Int32) : Option Int32 :=
  (zz_ix 4 (2 : Int32)).bind fun x1 =>
  (zz_ga (σ (8 + x1)) 14 piece_).bind fun x3 =>
  (zz_ix 4 (0 : Int32)).bind fun x5 =>
  (zz_ga (σ (8 + x5)) 14 ahead_).bind fun x7 =>
  (some ((x3 &&& x7) &&& (definedNames_ ^^^ (-1 : Int32)))).bind fun x9 =>
  (zz_ix 4 (1 : Int32)).bind fun x11 =>
  (zz_ga (σ (8 + x11)) 14 piece_).bind fun x13 =>
  (zz_ix 4 (3 : Int32)).bind fun x15 =>
  (zz_ga (σ (8 + x15)) 14 ahead_).bind fun x17 =>
  (some (x13 &&& x17)).bind fun x19 =>
  (zz_ix 4 (0 : Int32)).bind fun x21 =>
  (zz_ga (σ (8 + x21)) 14 piece_).bind fun x23 =>
  (zz_ix 4 (1 : Int32)).bind fun x25 =>
  (zz_ga (σ (8 + x25)) 14 ahead_).bind fun x27 =>
  (some (x23 &&& x27)).bind fun x29 =>
  (if ((x9 ||| x19) ||| x29) = 0 then
    some false
  else
    some true).bind fun b31 =>
  some (zz_bi b31)

def fX5_neededBy_L2 (σ : zz_St) (set_ : Int32) (definedNames_ : Int32) (piece_ : Int32) : Nat → Int32 → Int32 → Option (Int32 × Int32)
  | 0, _, _ => none
  | n + 1, needed_, ahead_ =>
    (if (σ 1 0) ≤ ahead_ then
      some false
    else
      (fX7_isIn σ piece_ set_).bind fun x8 =>
      if x8 = 0 then
        some false
      else
        some true).bind fun b2 =>
    if b2 = true then
      ((if ahead_ = piece_ then
        some false
      else
        (fX5_isNeeded σ piece_ ahead_ definedNames_).bind fun x20 =>
        if x20 = 0 then
          some false
        else
          some true).bind fun b14 =>
      if b14 = true then
        (some (needed_ ||| ((1 : Int32) <<< (ahead_ &&& 31)))).bind fun x23 =>
        some x23
      else
        some needed_).bind fun x11 =>
      fX5_neededBy_L2 σ set_ definedNames_ piece_ n x11 (ahead_ + (1 : Int32))
    else
      some (needed_, ahead_)

def fX5_neededBy_L1 (σ : zz_St) (set_ : Int32) (definedNames_ : Int32) : Nat → Int32 → Int32 → Option (Int32 × Int32)
  | 0, _, _ => none
  | n + 1, needed_, piece_ =>
    if (σ 1 0) ≤ piece_ then
      some (needed_, piece_)
    else
      (fX5_neededBy_L2 σ set_ definedNames_ piece_ 1000 needed_ (0 : Int32)).bind fun q25 =>
      fX5_neededBy_L1 σ set_ definedNames_ n q25.1 (piece_ + (1 : Int32))

def fX5_neededBy (σ : zz_St) (set_ : Int32) (definedNames_ : Int32) : Option Int32 :=
  (fX5_neededBy_L1 σ set_ definedNames_ 1000 (0 : Int32) (0 : Int32)).bind fun q27 =>
  some q27.1

def fX4_findNeeds_L2 (group_ : Int32) (neededPieces_ : Int32) : Nat → Int32 → zz_St → Option (Int32 × zz_St)
  | 0, _, _ => none
  | n + 1, other_, σ =>
    if (σ 24 2) ≤ other_ then
      some (other_, σ)
    else
      ((if other_ = group_ then
        some false
      else
        (zz_ga (σ 25) 14 other_).bind fun x18 =>
        if (neededPieces_ &&& x18) = 0 then
          some false
        else
          some true).bind fun b12 =>
      if b12 = true then
        (zz_ga (σ 43) 14 group_).bind fun x21 =>
        (zz_pa σ 43 14 group_ (x21 ||| ((1 : Int32) <<< (other_ &&& 31)))).bind fun σ23 =>
        some σ23
      else
        some σ).bind fun x9 =>
      fX4_findNeeds_L2 group_ neededPieces_ n (other_ + (1 : Int32)) x9

def fX4_findNeeds_L1 : Nat → Int32 → zz_St → Option (Int32 × zz_St)
  | 0, _, _ => none
  | n + 1, group_, σ =>
    if (σ 24 2) ≤ group_ then
      some (group_, σ)
    else
      (zz_ga (σ 25) 14 group_).bind fun x2 =>
      (fX5_neededBy σ x2 (σ 17 0)).bind fun x4 =>
      (zz_pa σ 43 14 group_ (0 : Int32)).bind fun σ6 =>
      (fX4_findNeeds_L2 group_ x4 1000 (0 : Int32) σ6).bind fun q25 =>
      fX4_findNeeds_L1 n (group_ + (1 : Int32)) q25.2

def fX4_findNeeds (σ : zz_St) : Option zz_St :=
  (fX4_findNeeds_L1 1000 (0 : Int32) σ).bind fun q27 =>
  some q27.2

def fX4_needByWayOfOthers_L2 (groupTotal_ : Int32) (way_ : Int32) : Nat → Int32 → zz_St → Option (Int32 × zz_St)
  | 0, _, _ => none
  | n + 1, group_, σ =>
    if groupTotal_ ≤ group_ then
      some (group_, σ)
    else
      ((zz_ga (σ 43) 14 group_).bind fun x6 =>
      (fX7_isIn σ way_ x6).bind fun x8 =>
      if x8 = 0 then
        some σ
      else
        (zz_ga (σ 43) 14 group_).bind fun x11 =>
        (zz_ga (σ 43) 14 way_).bind fun x13 =>
        (zz_pa σ 43 14 group_ (x11 ||| x13)).bind fun σ15 =>
        some σ15).bind fun x3 =>
      fX4_needByWayOfOthers_L2 groupTotal_ way_ n (group_ + (1 : Int32)) x3

def fX4_needByWayOfOthers_L1 (groupTotal_ : Int32) : Nat → Int32 → zz_St → Option (Int32 × zz_St)
  | 0, _, _ => none
  | n + 1, way_, σ =>
    if groupTotal_ ≤ way_ then
      some (way_, σ)
    else
      (fX4_needByWayOfOthers_L2 groupTotal_ way_ 1000 (0 : Int32) σ).bind fun q17 =>
      fX4_needByWayOfOthers_L1 groupTotal_ n (way_ + (1 : Int32)) q17.2

def fX4_needByWayOfOthers (σ : zz_St) (groupTotal_ : Int32) : Option zz_St :=
  (fX4_needByWayOfOthers_L1 groupTotal_ 1000 (0 : Int32) σ).bind fun q19 =>
  some q19.2

def fX4_circleOf_L1 (σ : zz_St) (group_ : Int32) (groupTotal_ : Int32) : Nat → Int32 → Int32 → Option (Int32 × Int32)
  | 0, _, _ => none
  | n + 1, circle_, other_ =>
    if groupTotal_ ≤ other_ then
      some (circle_, other_)
    else
      (((zz_ga (σ 43) 14 group_).bind fun x12 =>
      (fX7_isIn σ other_ x12).bind fun x14 =>
      if x14 = 0 then
        some false
      else
        (zz_ga (σ 43) 14 other_).bind fun x17 =>
        (fX7_isIn σ group_ x17).bind fun x19 =>
        if x19 = 0 then
          some false
        else
          some true).bind fun b7 =>
      if b7 = true then
        (some (circle_ ||| ((1 : Int32) <<< (other_ &&& 31)))).bind fun x22 =>
        some x22
      else
        some circle_).bind fun x4 =>
      fX4_circleOf_L1 σ group_ groupTotal_ n x4 (other_ + (1 : Int32))

def fX4_circleOf (σ : zz_St) (group_ : Int32) (groupTotal_ : Int32) : Option Int32 :=
  (some ((1 : Int32) <<< (group_ &&& 31))).bind fun x1 =>
  (fX4_circleOf_L1 σ group_ groupTotal_ 1000 x1 (0 : Int32)).bind fun q24 =>
  some q24.1

def fX4_nextCircle_L1 (σ : zz_St) (groupTotal_ : Int32) (placed_ : Int32) : Nat → Int32 → Option (Int32 ⊕ (Int32))
  | 0, _ => none
  | n + 1, group_ =>
    if groupTotal_ ≤ group_ then
      some (.inr group_)
    else
      (fX4_circleOf σ group_ groupTotal_).bind fun x2 =>
      ((zz_ga (σ 43) 14 group_).bind fun x7 =>
      if ((x7 &&& (x2 ^^^ (-1 : Int32))) &&& (placed_ ^^^ (-1 : Int32))) = 0 then
        some true
      else
        some false).bind fun b4 =>
      (some (zz_bi b4)).bind fun x10 =>
      ((fX7_isIn σ group_ placed_).bind fun x17 =>
      if x17 = 0 then
        if x10 = 0 then
          some false
        else
          some true
      else
        some false).bind fun b12 =>
      if b12 = true then
        some (.inl x2)
      else
        fX4_nextCircle_L1 σ groupTotal_ placed_ n (group_ + (1 : Int32))

def fX4_nextCircle (σ : zz_St) (groupTotal_ : Int32) (placed_ : Int32) : Option Int32 :=
  (fX4_nextCircle_L1 σ groupTotal_ placed_ 1000 (0 : Int32)).bind fun q21 =>
  match q21 with
  | .inl v23 =>
    some v23
  | .inr w24 =>
    some (0 : Int32)

def fX4_append_L1 (circle_ : Int32) : Nat → Int32 → zz_St → Option (Int32 × zz_St)
  | 0, _, _ => none
  | n + 1, group_, σ =>
    if (σ 24 2) ≤ group_ then
      some (group_, σ)
    else
      (zz_ga (σ 42) 14 (σ 41 0)).bind fun x5 =>
      ((fX7_isIn σ group_ circle_).bind fun x10 =>
      if x10 = 0 then
        some (0 : Int32)
      else
        (zz_ga (σ 25) 14 group_).bind fun x13 =>
        some x13).bind fun x7 =>
      (zz_pa σ 42 14 (σ 41 0) (x5 ||| x7)).bind fun σ15 =>
      fX4_append_L1 circle_ n (group_ + (1 : Int32)) σ15

def fX4_append (σ : zz_St) (circle_ : Int32) : Option zz_St :=
  if (σ 41 0) < (14 : Int32) then
    (zz_pa σ 42 14 (σ 41 0) (0 : Int32)).bind fun σ2 =>
    (fX4_append_L1 circle_ 1000 (0 : Int32) σ2).bind fun q17 =>
    ((fJ6_bitCount circle_).bind fun x22 =>
    if x22 ≤ (1 : Int32) then
      some (zz_u q17.2 41 0 ((q17.2 41 0) + (1 : Int32)))
    else
      some (zz_u (zz_u q17.2 41 0 ((q17.2 41 0) + (1 : Int32))) 41 1 (((zz_u q17.2 41 0 ((q17.2 41 0) + (1 : Int32))) 41 1) + (1 : Int32)))).bind fun x19 =>
    some x19
  else
    some σ

def fX4_build_L1 : Nat → Int32 → Int32 → zz_St → Option (Int32 × Int32 × zz_St)
  | 0, _, _, _ => none
  | n + 1, placed_, round_, σ =>
    if (σ 24 2) ≤ round_ then
      some (placed_, round_, σ)
    else
      (fX4_nextCircle σ (σ 24 2) placed_).bind fun x6 =>
      (if x6 = 0 then
        some (placed_, σ)
      else
        (some (placed_ ||| x6)).bind fun x12 =>
        (fX4_append σ x6).bind fun x14 =>
        some (x12, x14)).bind fun x8 =>
      fX4_build_L1 n x8.1 (round_ + (1 : Int32)) x8.2

def fX4_build (σ : zz_St) : Option zz_St :=
  (fX4_findNeeds σ).bind fun x1 =>
  (fX4_needByWayOfOthers x1 (x1 24 2)).bind fun x3 =>
  (fX4_build_L1 1000 (0 : Int32) (0 : Int32) (zz_u (zz_u x3 41 0 (0 : Int32)) 41 1 (0 : Int32))).bind fun q16 =>
  some q16.2.2

def fX7_putTogether (σ : zz_St) : Option zz_St :=
  (if (σ 0 7) = 0 then
    (fX3_weighAll σ).bind fun x5 =>
    (fX3_build x5 (x5 1 0)).bind fun x7 =>
    (fX4_build x7).bind fun x9 =>
    some (zz_u x9 0 7 (1 : Int32))
  else
    some σ).bind fun x1 =>
  some x1

def fX7_groupCount (σ : zz_St) : Option (Int32 × zz_St) :=
  (fX7_putTogether σ).bind fun x1 =>
  some ((x1 24 2), x1)

def fX7_requireGroup (σ : zz_St) (group_ : Int32) : Option ((Unit ⊕ String) × zz_St) :=
  (fX7_putTogether σ).bind fun x1 =>
  (if group_ < 0 then
    some true
  else
    if group_ < (x1 24 2) then
      some false
    else
      some true).bind fun b3 =>
  if b3 = true then
    some ((.inr "java/lang/IndexOutOfBoundsException"), x1)
  else
    some ((.inl ()), x1)

def fX7_group (σ : zz_St) (group_ : Int32) : Option ((Int32 ⊕ String) × zz_St) :=
  (fX7_requireGroup σ group_).bind fun x1 =>
  match x1 with
  | (.inl x1, σ4) =>
    (zz_ga (σ4 25) 14 group_).bind fun x5 =>
    some ((.inl x5), σ4)
  | (.inr E3, σ4) =>
    some ((.inr E3), σ4)

def fX7_placeOf_a25_L1 (σ : zz_St) (piece_ : Int32) (count_ : Int32) : Nat → Int32 → Option (Int32 ⊕ (Int32))
  | 0, _ => none
  | n + 1, place_ =>
    (if count_ ≤ place_ then
      some false
    else
      if (14 : Int32) ≤ place_ then
        some false
      else
        some true).bind fun b1 =>
    if b1 = true then
      (zz_ga (σ 25) 14 place_).bind fun x8 =>
      (fX7_isIn σ piece_ x8).bind fun x10 =>
      if x10 = 0 then
        fX7_placeOf_a25_L1 σ piece_ count_ n (place_ + (1 : Int32))
      else
        some (.inl place_)
    else
      some (.inr place_)

def fX7_placeOf_a25 (σ : zz_St) (piece_ : Int32) (count_ : Int32) : Option Int32 :=
  (fX7_placeOf_a25_L1 σ piece_ count_ 1000 (0 : Int32)).bind fun q13 =>
  match q13 with
  | .inl v15 =>
    some v15
  | .inr w16 =>
    some (-1 : Int32)

def fX7_groupOf (σ : zz_St) (piece_ : Int32) : Option ((Int32 ⊕ String) × zz_St) :=
  (fX7_requirePiece σ piece_).bind fun x1 =>
  match x1 with
  | .inl x1 =>
    (fX7_putTogether σ).bind fun x4 =>
    (fX7_placeOf_a25 x4 piece_ (x4 24 2)).bind fun x6 =>
    some ((.inl x6), x4)
  | .inr E3 =>
    some ((.inr E3), σ)

def fX7_linkage (σ : zz_St) (a_ : Int32) (b_ : Int32) : Option ((Int32 ⊕ String) × zz_St) :=
  (fX7_requireGroup σ a_).bind fun x1 =>
  match x1 with
  | (.inl x1, σ4) =>
    (fX7_requireGroup σ4 b_).bind fun x5 =>
    match x5 with
    | (.inl x5, σ8) =>
      if a_ = b_ then
        some ((.inr "java/lang/IllegalArgumentException"), σ8)
      else
        (zz_ga (σ8 25) 14 a_).bind fun x10 =>
        (zz_ga (σ8 25) 14 b_).bind fun x12 =>
        (fX3_linkageOf σ8 x10 x12).bind fun x14 =>
        some ((.inl x14), σ8)
    | (.inr E7, σ8) =>
      some ((.inr E7), σ8)
  | (.inr E3, σ4) =>
    some ((.inr E3), σ4)

def fX7_lastLinkage (σ : zz_St) : Option (Int32 × zz_St) :=
  (fX7_putTogether σ).bind fun x1 =>
  some ((x1 24 3), x1)

def fX7_needs (σ : zz_St) (a_ : Int32) (b_ : Int32) : Option (Int32 ⊕ String) :=
  (fX7_requirePiece σ a_).bind fun x1 =>
  match x1 with
  | .inl x1 =>
    (fX7_requirePiece σ b_).bind fun x4 =>
    match x4 with
    | .inl x4 =>
      (fX7_requireDifferent σ a_ b_).bind fun x7 =>
      match x7 with
      | .inl x7 =>
        (fX5_isNeeded σ a_ b_ (σ 17 0)).bind fun x10 =>
        (zz_bo x10).bind fun x12 =>
        some (.inl x12)
      | .inr E9 =>
        some (.inr E9)
    | .inr E6 =>
      some (.inr E6)
  | .inr E3 =>
    some (.inr E3)

def fX7_parcelCount (σ : zz_St) : Option (Int32 × zz_St) :=
  (fX7_putTogether σ).bind fun x1 =>
  some ((x1 41 0), x1)

def fX7_requireParcel (σ : zz_St) (parcel_ : Int32) : Option ((Unit ⊕ String) × zz_St) :=
  (fX7_putTogether σ).bind fun x1 =>
  (if parcel_ < 0 then
    some true
  else
    if parcel_ < (x1 41 0) then
      some false
    else
      some true).bind fun b3 =>
  if b3 = true then
    some ((.inr "java/lang/IndexOutOfBoundsException"), x1)
  else
    some ((.inl ()), x1)

def fX7_parcel (σ : zz_St) (parcel_ : Int32) : Option ((Int32 ⊕ String) × zz_St) :=
  (fX7_requireParcel σ parcel_).bind fun x1 =>
  match x1 with
  | (.inl x1, σ4) =>
    (zz_ga (σ4 42) 14 parcel_).bind fun x5 =>
    some ((.inl x5), σ4)
  | (.inr E3, σ4) =>
    some ((.inr E3), σ4)

def fX7_placeOf_a42_L1 (σ : zz_St) (piece_ : Int32) (count_ : Int32) : Nat → Int32 → Option (Int32 ⊕ (Int32))
  | 0, _ => none
  | n + 1, place_ =>
    (if count_ ≤ place_ then
      some false
    else
      if (14 : Int32) ≤ place_ then
        some false
      else
        some true).bind fun b1 =>
    if b1 = true then
      (zz_ga (σ 42) 14 place_).bind fun x8 =>
      (fX7_isIn σ piece_ x8).bind fun x10 =>
      if x10 = 0 then
        fX7_placeOf_a42_L1 σ piece_ count_ n (place_ + (1 : Int32))
      else
        some (.inl place_)
    else
      some (.inr place_)

def fX7_placeOf_a42 (σ : zz_St) (piece_ : Int32) (count_ : Int32) : Option Int32 :=
  (fX7_placeOf_a42_L1 σ piece_ count_ 1000 (0 : Int32)).bind fun q13 =>
  match q13 with
  | .inl v15 =>
    some v15
  | .inr w16 =>
    some (-1 : Int32)

def fX7_parcelOf (σ : zz_St) (piece_ : Int32) : Option ((Int32 ⊕ String) × zz_St) :=
  (fX7_requirePiece σ piece_).bind fun x1 =>
  match x1 with
  | .inl x1 =>
    (fX7_putTogether σ).bind fun x4 =>
    (fX7_placeOf_a42 x4 piece_ (x4 41 0)).bind fun x6 =>
    some ((.inl x6), x4)
  | .inr E3 =>
    some ((.inr E3), σ)

def fX7_knots (σ : zz_St) : Option (Int32 × zz_St) :=
  (fX7_putTogether σ).bind fun x1 =>
  some ((x1 41 1), x1)

def fX5_linesOf_L1 (σ : zz_St) (set_ : Int32) : Nat → Int32 → Int32 → Option (Int32 × Int32)
  | 0, _, _ => none
  | n + 1, sum_, piece_ =>
    if (σ 1 0) ≤ piece_ then
      some (sum_, piece_)
    else
      ((fX7_isIn σ piece_ set_).bind fun x5 =>
      if x5 = 0 then
        some sum_
      else
        (zz_ga (σ 4) 14 piece_).bind fun x8 =>
        (zz_ga (σ 5) 14 piece_).bind fun x10 =>
        (some (sum_ + (x8 + x10))).bind fun x12 =>
        some x12).bind fun x2 =>
      fX5_linesOf_L1 σ set_ n x2 (piece_ + (1 : Int32))

def fX5_linesOf (σ : zz_St) (set_ : Int32) : Option Int32 :=
  (fX5_linesOf_L1 σ set_ 1000 (0 : Int32) (0 : Int32)).bind fun q14 =>
  some q14.1

def fX7_lines (σ : zz_St) (parcel_ : Int32) : Option ((Int32 ⊕ String) × zz_St) :=
  (fX7_requireParcel σ parcel_).bind fun x1 =>
  match x1 with
  | (.inl x1, σ4) =>
    (zz_ga (σ4 42) 14 parcel_).bind fun x5 =>
    (fX5_linesOf σ4 x5).bind fun x7 =>
    some ((.inl x7), σ4)
  | (.inr E3, σ4) =>
    some ((.inr E3), σ4)

def fX5_all (σ : zz_St) : Option Int32 :=
  some (((1 : Int32) <<< ((σ 1 0) &&& 31)) - (1 : Int32))

def fX1_brokenBy_L1 (σ : zz_St) (applied_ : Int32) : Nat → Int32 → Int32 → Option (Int32 × Int32)
  | 0, _, _ => none
  | n + 1, found_, name_ =>
    if (16 : Int32) ≤ name_ then
      some (found_, name_)
    else
      (zz_ix 4 (0 : Int32)).bind fun x2 =>
      (zz_ga (σ (13 + x2)) 16 name_).bind fun x4 =>
      (fJ6_bitCount (x4 &&& applied_)).bind fun x6 =>
      (zz_ix 4 (1 : Int32)).bind fun x8 =>
      (zz_ga (σ (13 + x8)) 16 name_).bind fun x10 =>
      (fJ6_bitCount (x10 &&& applied_)).bind fun x12 =>
      (some (((((σ 17 0) >>> (name_ &&& 31)) &&& (1 : Int32)) + x6) - x12)).bind fun x14 =>
      (zz_ga (σ 18) 16 name_).bind fun x16 =>
      (zz_ix 4 (2 : Int32)).bind fun x18 =>
      (zz_ga (σ (13 + x18)) 16 name_).bind fun x20 =>
      (fJ6_bitCount (x20 &&& applied_)).bind fun x22 =>
      (zz_ix 4 (3 : Int32)).bind fun x24 =>
      (zz_ga (σ (13 + x24)) 16 name_).bind fun x26 =>
      (fJ6_bitCount (x26 &&& applied_)).bind fun x28 =>
      (some ((x16 + x22) - x28)).bind fun x30 =>
      ((if (1 : Int32) < x14 then
        some true
      else
        if (1 : Int32) ≤ x14 then
          some false
        else
          if x30 < (1 : Int32) then
            some false
          else
            some true).bind fun b35 =>
      if b35 = true then
        (some (found_ ||| ((1 : Int32) <<< (name_ &&& 31)))).bind fun x43 =>
        some x43
      else
        some found_).bind fun x32 =>
      fX1_brokenBy_L1 σ applied_ n x32 (name_ + (1 : Int32))

def fX1_brokenBy (σ : zz_St) (applied_ : Int32) : Option Int32 :=
  (fX1_brokenBy_L1 σ applied_ 1000 (0 : Int32) (0 : Int32)).bind fun q45 =>
  some q45.1

def fX7_broken (σ : zz_St) (pieces_ : Int32) : Option (Int32 ⊕ String) :=
  (fX5_all σ).bind fun x1 =>
  if (pieces_ &&& (x1 ^^^ (-1 : Int32))) = 0 then
    (fX1_brokenBy σ pieces_).bind fun x4 =>
    some (.inl x4)
  else
    some (.inr "java/lang/IllegalArgumentException")

def fX7_breakageInOrder_L1 (σ : zz_St) : Nat → Int32 → Int32 → Int32 → Option (Int32 × Int32 × Int32)
  | 0, _, _, _ => none
  | n + 1, applied_, sum_, parcel_ =>
    if (σ 41 0) ≤ parcel_ then
      some (applied_, sum_, parcel_)
    else
      (zz_ga (σ 42) 14 parcel_).bind fun x2 =>
      (some (applied_ ||| x2)).bind fun x4 =>
      (fX1_brokenBy σ x4).bind fun x6 =>
      (fJ6_bitCount x6).bind fun x8 =>
      (some (sum_ + x8)).bind fun x10 =>
      fX7_breakageInOrder_L1 σ n x4 x10 (parcel_ + (1 : Int32))

def fX7_breakageInOrder (σ : zz_St) : Option Int32 :=
  (fX7_breakageInOrder_L1 σ 1000 (0 : Int32) (0 : Int32) (0 : Int32)).bind fun q12 =>
  some q12.2.1

def fX7_breakage (σ : zz_St) : Option (Int32 × zz_St) :=
  (fX7_putTogether σ).bind fun x1 =>
  (fX7_breakageInOrder x1).bind fun x3 =>
  some (x3, x1)

def fX0_nextAfter_L1 (σ : zz_St) (chosen_ : Int32) : Nat → Int32 → Int32 → Int32 → Option (Int32 × Int32 × Int32)
  | 0, _, _, _ => none
  | n + 1, found_, leastThen_, parcel_ =>
    if (σ 44 1) ≤ parcel_ then
      some (found_, leastThen_, parcel_)
    else
      (((fX7_isIn σ parcel_ chosen_).bind fun x10 =>
      if x10 = 0 then
        (zz_ga (σ 46) 512 (chosen_ ||| ((1 : Int32) <<< (parcel_ &&& 31)))).bind fun x13 =>
        if leastThen_ ≤ x13 then
          some false
        else
          some true
      else
        some false).bind fun b5 =>
      if b5 = true then
        (zz_ga (σ 46) 512 (chosen_ ||| ((1 : Int32) <<< (parcel_ &&& 31)))).bind fun x16 =>
        some (parcel_, x16)
      else
        some (found_, leastThen_)).bind fun x2 =>
      fX0_nextAfter_L1 σ chosen_ n x2.1 x2.2 (parcel_ + (1 : Int32))

def fX0_nextAfter (σ : zz_St) (chosen_ : Int32) : Option Int32 :=
  (fX0_nextAfter_L1 σ chosen_ 1000 (-1 : Int32) (1000000 : Int32) (0 : Int32)).bind fun q18 =>
  some q18.1

def fX4_piecesIn_L1 (σ : zz_St) (chosen_ : Int32) : Nat → Int32 → Int32 → Option (Int32 × Int32)
  | 0, _, _ => none
  | n + 1, set_, parcel_ =>
    if (σ 41 0) ≤ parcel_ then
      some (set_, parcel_)
    else
      ((fX7_isIn σ parcel_ chosen_).bind fun x5 =>
      if x5 = 0 then
        some (0 : Int32)
      else
        (zz_ga (σ 42) 14 parcel_).bind fun x8 =>
        some x8).bind fun x2 =>
      (some (set_ ||| x2)).bind fun x10 =>
      fX4_piecesIn_L1 σ chosen_ n x10 (parcel_ + (1 : Int32))

def fX4_piecesIn (σ : zz_St) (chosen_ : Int32) : Option Int32 :=
  (fX4_piecesIn_L1 σ chosen_ 1000 (0 : Int32) (0 : Int32)).bind fun q12 =>
  some q12.1

def fX0_walk_L1 : Nat → Int32 → Int32 → zz_St → Option (Int32 × Int32 × zz_St)
  | 0, _, _, _ => none
  | n + 1, chosen_, place_, σ =>
    if (σ 44 1) ≤ place_ then
      some (chosen_, place_, σ)
    else
      (fX0_nextAfter σ chosen_).bind fun x2 =>
      (if x2 < 0 then
        some (chosen_, σ)
      else
        (zz_pa σ 45 9 place_ x2).bind fun σ8 =>
        (some (chosen_ ||| ((1 : Int32) <<< (x2 &&& 31)))).bind fun x10 =>
        some (x10, σ8)).bind fun x4 =>
      fX0_walk_L1 n x4.1 (place_ + (1 : Int32)) x4.2

def fX0_walk (σ : zz_St) : Option zz_St :=
  (fX0_walk_L1 1000 (0 : Int32) (0 : Int32) σ).bind fun q12 =>
  some q12.2.2

def fX0_find_L1 : Nat → Int32 → zz_St → Option (Int32 × zz_St)
  | 0, _, _ => none
  | n + 1, chosen_, σ =>
    if chosen_ < 0 then
      some (chosen_, σ)
    else
      (fX0_nextAfter σ chosen_).bind fun x4 =>
      (if 0 ≤ x4 then
        (zz_ga (σ 46) 512 (chosen_ ||| ((1 : Int32) <<< (x4 &&& 31)))).bind fun x10 =>
        some x10
      else
        some (0 : Int32)).bind fun x6 =>
      (if chosen_ = 0 then
        some (0 : Int32)
      else
        (fX4_piecesIn σ chosen_).bind fun x16 =>
        (fX1_brokenBy σ x16).bind fun x18 =>
        (fJ6_bitCount x18).bind fun x20 =>
        some x20).bind fun x12 =>
      (zz_pa σ 46 512 chosen_ (x12 + x6)).bind fun σ22 =>
      fX0_find_L1 n (chosen_ + (-1 : Int32)) σ22

def fX0_find (σ : zz_St) : Option zz_St :=
  (some (((1 : Int32) <<< (((zz_u σ 44 1 (zz_min (σ 41 0) (9 : Int32))) 44 1) &&& 31)) - (1 : Int32))).bind fun x1 =>
  (fX0_find_L1 1000 x1 (zz_u σ 44 1 (zz_min (σ 41 0) (9 : Int32)))).bind fun q24 =>
  (zz_ga (q24.2 46) 512 (0 : Int32)).bind fun x26 =>
  (fX0_walk (zz_u q24.2 44 0 x26)).bind fun x28 =>
  some x28

def fX7_findBest (σ : zz_St) : Option ((Unit ⊕ String) × zz_St) :=
  (fX7_putTogether σ).bind fun x1 =>
  if (x1 41 0) ≤ (9 : Int32) then
    (if (x1 0 8) = 0 then
      (fX0_find x1).bind fun x8 =>
      some (zz_u x8 0 8 (1 : Int32))
    else
      some x1).bind fun x4 =>
    some ((.inl ()), x4)
  else
    some ((.inr "java/lang/IllegalStateException"), x1)

def fX7_leastBreakage (σ : zz_St) : Option ((Int32 ⊕ String) × zz_St) :=
  (fX7_findBest σ).bind fun x1 =>
  match x1 with
  | (.inl x1, σ4) =>
    some ((.inl (σ4 44 0)), σ4)
  | (.inr E3, σ4) =>
    some ((.inr E3), σ4)

def fX7_best (σ : zz_St) (place_ : Int32) : Option ((Int32 ⊕ String) × zz_St) :=
  (fX7_findBest σ).bind fun x1 =>
  match x1 with
  | (.inl x1, σ4) =>
    (if place_ < 0 then
      some true
    else
      if place_ < (σ4 44 1) then
        some false
      else
        some true).bind fun b5 =>
    if b5 = true then
      some ((.inr "java/lang/IndexOutOfBoundsException"), σ4)
    else
      (zz_ga (σ4 45) 9 place_).bind fun x12 =>
      some ((.inl x12), σ4)
  | (.inr E3, σ4) =>
    some ((.inr E3), σ4)

def fX7_setPurpose (σ : zz_St) (piece_ : Int32) (purpose_ : Int32) : Option ((Int32 ⊕ String) × zz_St) :=
  (fX7_requirePiece σ piece_).bind fun x1 =>
  match x1 with
  | .inl x1 =>
    (fX7_isUpTo σ purpose_ (9 : Int32)).bind fun x4 =>
    if x4 = 0 then
      some ((.inr "java/lang/IllegalArgumentException"), σ)
    else
      (zz_ga (σ 6) 14 piece_).bind fun x7 =>
      (zz_pa σ 6 14 piece_ purpose_).bind fun σ9 =>
      some ((.inl x7), σ9)
  | .inr E3 =>
    some ((.inr E3), σ)

def fX3_isTogether (σ : zz_St) (a_ : Int32) (b_ : Int32) : Option Int32 :=
  ((fX7_placeOf_a25 σ a_ (σ 24 2)).bind fun x4 =>
  (fX7_placeOf_a25 σ b_ (σ 24 2)).bind fun x6 =>
  if x4 = x6 then
    some true
  else
    some false).bind fun b1 =>
  some (zz_bi b1)

def fX7_agreement_L2 (σ : zz_St) (b_ : Int32) : Nat → Int32 → Int32 → Int32 → Option (Int32 × Int32 × Int32)
  | 0, _, _, _ => none
  | n + 1, pairs_, agreed_, a_ =>
    if b_ ≤ a_ then
      some (pairs_, agreed_, a_)
    else
      ((zz_ga (σ 6) 14 a_).bind fun x8 =>
      (zz_ga (σ 6) 14 b_).bind fun x10 =>
      if x8 = x10 then
        some true
      else
        some false).bind fun b5 =>
      (some (zz_bi b5)).bind fun x13 =>
      ((fX3_isTogether σ a_ b_).bind fun x18 =>
      if x13 = x18 then
        some (agreed_ + (1 : Int32))
      else
        some agreed_).bind fun x15 =>
      fX7_agreement_L2 σ b_ n (pairs_ + (1 : Int32)) x15 (a_ + (1 : Int32))

def fX7_agreement_L1 (σ : zz_St) : Nat → Int32 → Int32 → Int32 → Option (Int32 × Int32 × Int32)
  | 0, _, _, _ => none
  | n + 1, pairs_, agreed_, b_ =>
    if (σ 1 0) ≤ b_ then
      some (pairs_, agreed_, b_)
    else
      (fX7_agreement_L2 σ b_ 1000 pairs_ agreed_ (0 : Int32)).bind fun q21 =>
      fX7_agreement_L1 σ n q21.1 q21.2.1 (b_ + (1 : Int32))

def fX7_agreement (σ : zz_St) : Option (UInt64 × zz_St) :=
  (fX7_putTogether σ).bind fun x1 =>
  (fX7_agreement_L1 x1 1000 (0 : Int32) (0 : Int32) (1 : Int32)).bind fun q23 =>
  (if q23.1 = 0 then
    some FP.dconst1
  else
    (zz_dd (FP.i2d q23.2.1) (FP.i2d q23.1)).bind fun x29 =>
    some x29).bind fun x25 =>
  some (x25, x1)

def fX7_mix (σ : zz_St) (d_ : Int64) (x_ : Int64) : Option Int64 :=
  some ((d_ * (31 : Int64)) + x_)

def fX5_mixInto_L2 (σ : zz_St) (d_ : Int64) (piece_ : Int32) : Nat → Int64 → Int32 → Option (Int64 × Int32)
  | 0, _, _ => none
  | n + 1, mixed_, what_ =>
    if (4 : Int32) ≤ what_ then
      some (mixed_, what_)
    else
      (zz_ix 4 what_).bind fun x21 =>
      (zz_ga (σ (8 + x21)) 14 piece_).bind fun x23 =>
      (fX7_mix σ mixed_ x23.toInt64).bind fun x25 =>
      fX5_mixInto_L2 σ d_ piece_ n x25 (what_ + (1 : Int32))

def fX5_mixInto_L1 (σ : zz_St) (d_ : Int64) : Nat → Int64 → Int32 → Option (Int64 × Int32)
  | 0, _, _ => none
  | n + 1, mixed_, piece_ =>
    if (σ 1 0) ≤ piece_ then
      some (mixed_, piece_)
    else
      (zz_ga (σ 2) 14 piece_).bind fun x4 =>
      (fX7_mix σ mixed_ x4.toInt64).bind fun x6 =>
      (zz_ga (σ 3) 14 piece_).bind fun x8 =>
      (fX7_mix σ x6 x8.toInt64).bind fun x10 =>
      (zz_ga (σ 4) 14 piece_).bind fun x12 =>
      (fX7_mix σ x10 x12.toInt64).bind fun x14 =>
      (zz_ga (σ 5) 14 piece_).bind fun x16 =>
      (fX7_mix σ x14 x16.toInt64).bind fun x18 =>
      (fX5_mixInto_L2 σ d_ piece_ 1000 x18 (0 : Int32)).bind fun q27 =>
      (zz_ga (σ 6) 14 piece_).bind fun x29 =>
      (fX7_mix σ q27.1 x29.toInt64).bind fun x31 =>
      fX5_mixInto_L1 σ d_ n x31 (piece_ + (1 : Int32))

def fX5_mixInto (σ : zz_St) (d_ : Int64) : Option Int64 :=
  (fX7_mix σ d_ (((σ 1 0)).toInt64)).bind fun x1 =>
  (fX5_mixInto_L1 σ d_ 1000 x1 (0 : Int32)).bind fun q33 =>
  some q33.1

def fX7_mixRow_a20_L1 (σ : zz_St) (d_ : Int64) (count_ : Int32) : Nat → Int64 → Int32 → Option (Int64 × Int32)
  | 0, _, _ => none
  | n + 1, mixed_, k_ =>
    (if count_ ≤ k_ then
      some false
    else
      if (4 : Int32) ≤ k_ then
        some false
      else
        some true).bind fun b1 =>
    if b1 = true then
      (zz_ga (σ 20) 4 k_).bind fun x8 =>
      (fX7_mix σ mixed_ x8.toInt64).bind fun x10 =>
      fX7_mixRow_a20_L1 σ d_ count_ n x10 (k_ + (1 : Int32))
    else
      some (mixed_, k_)

def fX7_mixRow_a20 (σ : zz_St) (d_ : Int64) (count_ : Int32) : Option Int64 :=
  (fX7_mixRow_a20_L1 σ d_ count_ 1000 d_ (0 : Int32)).bind fun q12 =>
  some q12.1

def fX1_mixInto_L1 (σ : zz_St) (d_ : Int64) : Nat → Int64 → Int32 → Option (Int64 × Int32)
  | 0, _, _ => none
  | n + 1, mixed_, name_ =>
    if (16 : Int32) ≤ name_ then
      some (mixed_, name_)
    else
      (fX7_mix σ mixed_ (((((σ 17 0) >>> (name_ &&& 31)) &&& (1 : Int32))).toInt64)).bind fun x2 =>
      (zz_ga (σ 18) 16 name_).bind fun x4 =>
      (fX7_mix σ x2 x4.toInt64).bind fun x6 =>
      fX1_mixInto_L1 σ d_ n x6 (name_ + (1 : Int32))

def fX1_mixInto (σ : zz_St) (d_ : Int64) : Option Int64 :=
  (fX1_mixInto_L1 σ d_ 1000 d_ (0 : Int32)).bind fun q8 =>
  some q8.1

def fX7_mixRow_a25_L1 (σ : zz_St) (d_ : Int64) (count_ : Int32) : Nat → Int64 → Int32 → Option (Int64 × Int32)
  | 0, _, _ => none
  | n + 1, mixed_, k_ =>
    (if count_ ≤ k_ then
      some false
    else
      if (14 : Int32) ≤ k_ then
        some false
      else
        some true).bind fun b1 =>
    if b1 = true then
      (zz_ga (σ 25) 14 k_).bind fun x8 =>
      (fX7_mix σ mixed_ x8.toInt64).bind fun x10 =>
      fX7_mixRow_a25_L1 σ d_ count_ n x10 (k_ + (1 : Int32))
    else
      some (mixed_, k_)

def fX7_mixRow_a25 (σ : zz_St) (d_ : Int64) (count_ : Int32) : Option Int64 :=
  (fX7_mixRow_a25_L1 σ d_ count_ 1000 d_ (0 : Int32)).bind fun q12 =>
  some q12.1

def fX7_mixRow_a42_L1 (σ : zz_St) (d_ : Int64) (count_ : Int32) : Nat → Int64 → Int32 → Option (Int64 × Int32)
  | 0, _, _ => none
  | n + 1, mixed_, k_ =>
    (if count_ ≤ k_ then
      some false
    else
      if (14 : Int32) ≤ k_ then
        some false
      else
        some true).bind fun b1 =>
    if b1 = true then
      (zz_ga (σ 42) 14 k_).bind fun x8 =>
      (fX7_mix σ mixed_ x8.toInt64).bind fun x10 =>
      fX7_mixRow_a42_L1 σ d_ count_ n x10 (k_ + (1 : Int32))
    else
      some (mixed_, k_)

def fX7_mixRow_a42 (σ : zz_St) (d_ : Int64) (count_ : Int32) : Option Int64 :=
  (fX7_mixRow_a42_L1 σ d_ count_ 1000 d_ (0 : Int32)).bind fun q12 =>
  some q12.1

def fX7_digest (σ : zz_St) : Option (Int64 × zz_St) :=
  (fX7_putTogether σ).bind fun x1 =>
  (fX5_mixInto x1 (173 : Int64)).bind fun x3 =>
  (fX7_mixRow_a20 x1 x3 (4 : Int32)).bind fun x5 =>
  (fX7_mix x1 x5 (((x1 19 1)).toInt64)).bind fun x7 =>
  (fX7_mix x1 x7 (((x1 24 0)).toInt64)).bind fun x9 =>
  (fX7_mix x1 x9 (((x1 24 1)).toInt64)).bind fun x11 =>
  (fX1_mixInto x1 x11).bind fun x13 =>
  (fX7_mix x1 x13 (((x1 24 2)).toInt64)).bind fun x15 =>
  (fX7_mixRow_a25 x1 x15 (x1 24 2)).bind fun x17 =>
  (fX7_mix x1 x17 (((x1 41 0)).toInt64)).bind fun x19 =>
  (fX7_mixRow_a42 x1 x19 (x1 41 0)).bind fun x21 =>
  (fX7_breakageInOrder x1).bind fun x23 =>
  (fX7_mix x1 x21 x23.toInt64).bind fun x25 =>
  some (x25, x1)

def fX8_thrown (σ : zz_St) : Option Int32 :=
  some (σ 47 0)

def fX8_isIn (σ : zz_St) (v_ : Int32) (low_ : Int32) (high_ : Int32) : Option Int32 :=
  (if v_ < low_ then
    some false
  else
    if high_ < v_ then
      some false
    else
      some true).bind fun b1 =>
  some (zz_bi b1)

def fX8_no (σ : zz_St) (number_ : Int32) : Option (Int32 × zz_St) :=
  some ((0 : Int32), (zz_u σ 47 0 number_))

def fX8_addPiece_L1 (file_ : Int32) (line_ : Int32) (added_ : Int32) (taken_ : Int32) (at_ : Int32) : Nat → Int32 → zz_St → Option (Int32 × zz_St)
  | 0, _, _ => none
  | n + 1, what_, σ =>
    if (4 : Int32) ≤ what_ then
      some (what_, σ)
    else
      (zz_pa σ 49 56 (((4 : Int32) * (σ 47 1)) + what_) (0 : Int32)).bind fun σ32 =>
      fX8_addPiece_L1 file_ line_ added_ taken_ at_ n (what_ + (1 : Int32)) σ32

def fX8_addPiece_L2 (file_ : Int32) (line_ : Int32) (added_ : Int32) (taken_ : Int32) (at_ : Int32) : Nat → Int32 → zz_St → Option (Int32 × zz_St)
  | 0, _, _ => none
  | n + 1, other_, σ =>
    if (14 : Int32) ≤ other_ then
      some (other_, σ)
    else
      (zz_pa σ 51 196 (((14 : Int32) * (σ 47 1)) + other_) (0 : Int32)).bind fun σ37 =>
      (zz_pa σ37 51 196 (((14 : Int32) * other_) + (σ37 47 1)) (0 : Int32)).bind fun σ39 =>
      fX8_addPiece_L2 file_ line_ added_ taken_ at_ n (other_ + (1 : Int32)) σ39

def fX8_addPiece (σ : zz_St) (file_ : Int32) (line_ : Int32) (added_ : Int32) (taken_ : Int32) : Option (Int32 × zz_St) :=
  ((fX8_isIn (zz_u σ 47 0 (0 : Int32)) file_ (0 : Int32) (9 : Int32)).bind fun x6 =>
  if x6 = 0 then
    some true
  else
    (fX8_isIn (zz_u σ 47 0 (0 : Int32)) line_ (0 : Int32) (9999 : Int32)).bind fun x9 =>
    if x9 = 0 then
      some true
    else
      (fX8_isIn (zz_u σ 47 0 (0 : Int32)) added_ (0 : Int32) (999 : Int32)).bind fun x12 =>
      if x12 = 0 then
        some true
      else
        (fX8_isIn (zz_u σ 47 0 (0 : Int32)) taken_ (0 : Int32) (999 : Int32)).bind fun x15 =>
        if x15 = 0 then
          some true
        else
          some false).bind fun b1 =>
  if b1 = true then
    (fX8_no (zz_u σ 47 0 (0 : Int32)) (1 : Int32)).bind fun x18 =>
    some (x18.1, x18.2)
  else
    if ((zz_u σ 47 0 (0 : Int32)) 47 1) = (14 : Int32) then
      (fX8_no (zz_u σ 47 0 (0 : Int32)) (2 : Int32)).bind fun x45 =>
      some (x45.1, x45.2)
    else
      (some ((4 : Int32) * ((zz_u σ 47 0 (0 : Int32)) 47 1))).bind fun x21 =>
      (zz_pa (zz_u σ 47 0 (0 : Int32)) 48 56 x21 file_).bind fun σ23 =>
      (zz_pa σ23 48 56 (x21 + (1 : Int32)) line_).bind fun σ25 =>
      (zz_pa σ25 48 56 (x21 + (2 : Int32)) added_).bind fun σ27 =>
      (zz_pa σ27 48 56 (x21 + (3 : Int32)) taken_).bind fun σ29 =>
      (fX8_addPiece_L1 file_ line_ added_ taken_ x21 1000 (0 : Int32) σ29).bind fun q34 =>
      (fX8_addPiece_L2 file_ line_ added_ taken_ x21 1000 (0 : Int32) q34.2).bind fun q41 =>
      (zz_pa q41.2 50 14 (q41.2 47 1) (0 : Int32)).bind fun σ43 =>
      some ((((zz_u σ43 47 1 ((σ43 47 1) + (1 : Int32))) 47 1) - (1 : Int32)), (zz_u σ43 47 1 ((σ43 47 1) + (1 : Int32))))

def fX8_isPiece (σ : zz_St) (p_ : Int32) : Option Int32 :=
  (fX8_isIn σ p_ (0 : Int32) ((σ 47 1) - (1 : Int32))).bind fun x1 =>
  (zz_bo x1).bind fun x3 =>
  some x3

def fX8_isKind (σ : zz_St) (kind_ : Int32) : Option Int32 :=
  (fX8_isIn σ kind_ (0 : Int32) (3 : Int32)).bind fun x1 =>
  (zz_bo x1).bind fun x3 =>
  some x3

def fX8_namesOf (σ : zz_St) (piece_ : Int32) (what_ : Int32) : Option Int32 :=
  (zz_ga (σ 49) 56 (((4 : Int32) * piece_) + what_)).bind fun x1 =>
  some x1

def fX8_setNames (σ : zz_St) (piece_ : Int32) (what_ : Int32) (set_ : Int32) : Option (Int32 × zz_St) :=
  ((fX8_isPiece (zz_u σ 47 0 (0 : Int32)) piece_).bind fun x6 =>
  if x6 = 0 then
    some true
  else
    (fX8_isKind (zz_u σ 47 0 (0 : Int32)) what_).bind fun x9 =>
    if x9 = 0 then
      some true
    else
      some false).bind fun b1 =>
  if b1 = true then
    (fX8_no (zz_u σ 47 0 (0 : Int32)) (1 : Int32)).bind fun x12 =>
    some (x12.1, x12.2)
  else
    (fX8_isIn (zz_u σ 47 0 (0 : Int32)) set_ (0 : Int32) (65535 : Int32)).bind fun x14 =>
    if x14 = 0 then
      (fX8_no (zz_u σ 47 0 (0 : Int32)) (2 : Int32)).bind fun x21 =>
      some (x21.1, x21.2)
    else
      (fX8_namesOf (zz_u σ 47 0 (0 : Int32)) piece_ what_).bind fun x17 =>
      (zz_pa (zz_u σ 47 0 (0 : Int32)) 49 56 (((4 : Int32) * piece_) + what_) set_).bind fun σ19 =>
      some (x17, σ19)

def fX8_names (σ : zz_St) (piece_ : Int32) (what_ : Int32) : Option (Int32 × zz_St) :=
  (((fX8_isPiece (zz_u σ 47 0 (0 : Int32)) piece_).bind fun x9 =>
  if x9 = 0 then
    some false
  else
    (fX8_isKind (zz_u σ 47 0 (0 : Int32)) what_).bind fun x12 =>
    if x12 = 0 then
      some false
    else
      some true).bind fun b4 =>
  if b4 = true then
    (fX8_namesOf (zz_u σ 47 0 (0 : Int32)) piece_ what_).bind fun x15 =>
    some (x15, (zz_u σ 47 0 (0 : Int32)))
  else
    (fX8_no (zz_u σ 47 0 (0 : Int32)) (1 : Int32)).bind fun x17 =>
    some (x17.1, x17.2)).bind fun x1 =>
  some (x1.1, x1.2)

def fX8_setName (σ : zz_St) (name_ : Int32) (isDefined_ : Int32) (uses_ : Int32) : Option (Int32 × zz_St) :=
  ((fX8_isIn σ name_ (0 : Int32) (15 : Int32)).bind fun x4 =>
  if x4 = 0 then
    some (1 : Int32)
  else
    ((fX8_isIn σ uses_ (0 : Int32) (9 : Int32)).bind fun x10 =>
    if x10 = 0 then
      some (2 : Int32)
    else
      some (0 : Int32)).bind fun x7 =>
    some x7).bind fun x1 =>
  if ((zz_u σ 47 0 x1) 47 0) = 0 then
    ((zz_ga ((zz_u σ 47 0 x1) 52) 16 name_).bind fun x17 =>
    if x17 = isDefined_ then
      (zz_ga ((zz_u σ 47 0 x1) 53) 16 name_).bind fun x20 =>
      if x20 = uses_ then
        some false
      else
        some true
    else
      some true).bind fun b14 =>
    (some (zz_bi b14)).bind fun x23 =>
    (zz_bo isDefined_).bind fun x27 =>
    (zz_pa (zz_u σ 47 0 x1) 52 16 name_ x27).bind fun σ25 =>
    (zz_pa σ25 53 16 name_ uses_).bind fun σ29 =>
    (zz_bo x23).bind fun x31 =>
    some (x31, σ29)
  else
    some ((0 : Int32), (zz_u σ 47 0 x1))

def fX8_dropPiece (σ : zz_St) : Option (Int32 × zz_St) :=
  if ((zz_u σ 47 0 (0 : Int32)) 47 1) = 0 then
    (fX8_no (zz_u σ 47 0 (0 : Int32)) (1 : Int32)).bind fun x2 =>
    some (x2.1, x2.2)
  else
    some (((zz_u (zz_u σ 47 0 (0 : Int32)) 47 1 (((zz_u σ 47 0 (0 : Int32)) 47 1) - (1 : Int32))) 47 1), (zz_u (zz_u σ 47 0 (0 : Int32)) 47 1 (((zz_u σ 47 0 (0 : Int32)) 47 1) - (1 : Int32))))

def fX8_pieceCount (σ : zz_St) : Option (Int32 × zz_St) :=
  some (((zz_u σ 47 0 (0 : Int32)) 47 1), (zz_u σ 47 0 (0 : Int32)))

def fX8_setWeight (σ : zz_St) (kind_ : Int32) (weight_ : Int32) : Option (Int32 × zz_St) :=
  (fX8_isKind (zz_u σ 47 0 (0 : Int32)) kind_).bind fun x1 =>
  if x1 = 0 then
    (fX8_no (zz_u σ 47 0 (0 : Int32)) (1 : Int32)).bind fun x13 =>
    some (x13.1, x13.2)
  else
    (fX8_isIn (zz_u σ 47 0 (0 : Int32)) weight_ (0 : Int32) (50 : Int32)).bind fun x4 =>
    if x4 = 0 then
      (fX8_no (zz_u σ 47 0 (0 : Int32)) (2 : Int32)).bind fun x11 =>
      some (x11.1, x11.2)
    else
      (zz_ga ((zz_u σ 47 0 (0 : Int32)) 54) 4 kind_).bind fun x7 =>
      (zz_pa (zz_u σ 47 0 (0 : Int32)) 54 4 kind_ weight_).bind fun σ9 =>
      some (x7, σ9)

def fX8_setSpan (σ : zz_St) (newSpan_ : Int32) : Option (Int32 × zz_St) :=
  (fX8_isIn (zz_u σ 47 0 (0 : Int32)) newSpan_ (0 : Int32) (999 : Int32)).bind fun x1 =>
  if x1 = 0 then
    (fX8_no (zz_u σ 47 0 (0 : Int32)) (1 : Int32)).bind fun x6 =>
    some (x6.1, x6.2)
  else
    (some ((zz_u σ 47 0 (0 : Int32)) 47 9)).bind fun x4 =>
    some (x4, (zz_u (zz_u σ 47 0 (0 : Int32)) 47 9 newSpan_))

def fX8_arePieces (σ : zz_St) (a_ : Int32) (b_ : Int32) : Option (Int32 × zz_St) :=
  (((fX8_isPiece σ a_).bind fun x9 =>
  if x9 = 0 then
    some true
  else
    (fX8_isPiece σ b_).bind fun x12 =>
    if x12 = 0 then
      some true
    else
      some false).bind fun b4 =>
  if b4 = true then
    some (1 : Int32)
  else
    some (0 : Int32)).bind fun x1 =>
  (if ((zz_u σ 47 0 x1) 47 0) = 0 then
    some true
  else
    some false).bind fun b15 =>
  some ((zz_bi b15), (zz_u σ 47 0 x1))

def fX8_allNames_L1 (σ : zz_St) (piece_ : Int32) : Nat → Int32 → Int32 → Option (Int32 × Int32)
  | 0, _, _ => none
  | n + 1, set_, what_ =>
    if (4 : Int32) ≤ what_ then
      some (set_, what_)
    else
      (fX8_namesOf σ piece_ what_).bind fun x2 =>
      (some (set_ ||| x2)).bind fun x4 =>
      fX8_allNames_L1 σ piece_ n x4 (what_ + (1 : Int32))

def fX8_allNames (σ : zz_St) (piece_ : Int32) : Option Int32 :=
  (fX8_allNames_L1 σ piece_ 1000 (0 : Int32) (0 : Int32)).bind fun q6 =>
  some q6.1

def fX8_common (σ : zz_St) (a_ : Int32) (b_ : Int32) (what_ : Int32) (other_ : Int32) : Option Int32 :=
  (fX8_namesOf σ a_ what_).bind fun x1 =>
  (fX8_namesOf σ b_ other_).bind fun x3 =>
  (fJ6_bitCount (x1 &&& x3)).bind fun x5 =>
  (fX8_namesOf σ b_ what_).bind fun x7 =>
  (fX8_namesOf σ a_ other_).bind fun x9 =>
  (fJ6_bitCount (x7 &&& x9)).bind fun x11 =>
  some (x5 + x11)

def fX8_pointsOf (σ : zz_St) (a_ : Int32) (b_ : Int32) (kind_ : Int32) : Option Int32 :=
  (zz_ga (σ 54) 4 kind_).bind fun x1 =>
  if kind_ = 0 then
    (((zz_ga (σ 48) 56 ((4 : Int32) * a_)).bind fun x36 =>
    (zz_ga (σ 48) 56 ((4 : Int32) * b_)).bind fun x38 =>
    if x36 = x38 then
      (zz_ga (σ 48) 56 (((4 : Int32) * a_) + (1 : Int32))).bind fun x41 =>
      (zz_ga (σ 48) 56 (((4 : Int32) * b_) + (1 : Int32))).bind fun x43 =>
      if (σ 47 9) < (zz_abs (x41 - x43)) then
        some false
      else
        some true
    else
      some false).bind fun b31 =>
    if b31 = true then
      some x1
    else
      some (0 : Int32)).bind fun x28 =>
    some x28
  else
    if kind_ = (1 : Int32) then
      (fX8_common σ a_ b_ (0 : Int32) (2 : Int32)).bind fun x26 =>
      some (x1 * x26)
    else
      if kind_ = (2 : Int32) then
        (fX8_common σ a_ b_ (1 : Int32) (0 : Int32)).bind fun x24 =>
        some (x1 * x24)
      else
        (fX8_allNames σ a_).bind fun x6 =>
        (fX8_allNames σ b_).bind fun x8 =>
        (fJ6_bitCount (x6 ||| x8)).bind fun x10 =>
        (if x10 = 0 then
          some (0 : Int32)
        else
          (fX8_allNames σ a_).bind fun x16 =>
          (fX8_allNames σ b_).bind fun x18 =>
          (fJ6_bitCount (x16 &&& x18)).bind fun x20 =>
          (zz_dv (x1 * x20) x10).bind fun x22 =>
          some x22).bind fun x12 =>
        some x12

def fX8_points (σ : zz_St) (a_ : Int32) (b_ : Int32) (kind_ : Int32) : Option (Int32 × zz_St) :=
  (fX8_arePieces σ a_ b_).bind fun x1 =>
  if x1.1 = 0 then
    some ((0 : Int32), x1.2)
  else
    (fX8_isKind x1.2 kind_).bind fun x4 =>
    if x4 = 0 then
      (fX8_no x1.2 (1 : Int32)).bind fun x15 =>
      some (x15.1, x15.2)
    else
      (if a_ = b_ then
        (fX8_no x1.2 (2 : Int32)).bind fun x13 =>
        some (x13.1, x13.2)
      else
        (fX8_pointsOf x1.2 a_ b_ kind_).bind fun x11 =>
        some (x11, x1.2)).bind fun x7 =>
      some (x7.1, x7.2)

def fX8_affinityOf_L1 (σ : zz_St) (a_ : Int32) (b_ : Int32) : Nat → Int32 → Int32 → Option (Int32 × Int32)
  | 0, _, _ => none
  | n + 1, sum_, kind_ =>
    if (4 : Int32) ≤ kind_ then
      some (sum_, kind_)
    else
      (fX8_pointsOf σ a_ b_ kind_).bind fun x2 =>
      (some (sum_ + x2)).bind fun x4 =>
      fX8_affinityOf_L1 σ a_ b_ n x4 (kind_ + (1 : Int32))

def fX8_affinityOf (σ : zz_St) (a_ : Int32) (b_ : Int32) : Option Int32 :=
  (fX8_affinityOf_L1 σ a_ b_ 1000 (0 : Int32) (0 : Int32)).bind fun q6 =>
  some q6.1

def fX8_affinity (σ : zz_St) (a_ : Int32) (b_ : Int32) : Option (Int32 × zz_St) :=
  (fX8_arePieces σ a_ b_).bind fun x1 =>
  if x1.1 = 0 then
    some ((0 : Int32), x1.2)
  else
    (if a_ = b_ then
      (fX8_no x1.2 (2 : Int32)).bind fun x10 =>
      some (x10.1, x10.2)
    else
      (fX8_affinityOf x1.2 a_ b_).bind fun x8 =>
      some (x8, x1.2)).bind fun x4 =>
    some (x4.1, x4.2)

def fX8_closest_L1 (σ : zz_St) (piece_ : Int32) : Nat → Int32 → Int32 → Option (Int32 × Int32)
  | 0, _, _ => none
  | n + 1, best_, other_ =>
    if (σ 47 1) ≤ other_ then
      some (best_, other_)
    else
      ((if other_ = piece_ then
        some false
      else
        if best_ = (-1 : Int32) then
          some true
        else
          (fX8_affinityOf σ piece_ other_).bind fun x15 =>
          (fX8_affinityOf σ piece_ best_).bind fun x17 =>
          if x15 ≤ x17 then
            some false
          else
            some true).bind fun b8 =>
      if b8 = true then
        some other_
      else
        some best_).bind fun x5 =>
      fX8_closest_L1 σ piece_ n x5 (other_ + (1 : Int32))

def fX8_closest (σ : zz_St) (piece_ : Int32) : Option (Int32 × zz_St) :=
  (fX8_isPiece (zz_u σ 47 0 (0 : Int32)) piece_).bind fun x1 =>
  if x1 = 0 then
    (fX8_no (zz_u σ 47 0 (0 : Int32)) (1 : Int32)).bind fun x22 =>
    some (x22.1, x22.2)
  else
    (fX8_closest_L1 (zz_u σ 47 0 (0 : Int32)) piece_ 1000 (-1 : Int32) (0 : Int32)).bind fun q20 =>
    some (q20.1, (zz_u σ 47 0 (0 : Int32)))

def fX8_setThreshold (σ : zz_St) (newThreshold_ : Int32) : Option (Int32 × zz_St) :=
  (fX8_isIn (zz_u σ 47 0 (0 : Int32)) newThreshold_ (1 : Int32) (999 : Int32)).bind fun x1 =>
  if x1 = 0 then
    (fX8_no (zz_u σ 47 0 (0 : Int32)) (1 : Int32)).bind fun x6 =>
    some (x6.1, x6.2)
  else
    (some ((zz_u σ 47 0 (0 : Int32)) 47 10)).bind fun x4 =>
    some (x4, (zz_u (zz_u σ 47 0 (0 : Int32)) 47 10 newThreshold_))

def fX8_setManner (σ : zz_St) (newManner_ : Int32) : Option (Int32 × zz_St) :=
  (fX8_isIn (zz_u σ 47 0 (0 : Int32)) newManner_ (0 : Int32) (2 : Int32)).bind fun x1 =>
  if x1 = 0 then
    (fX8_no (zz_u σ 47 0 (0 : Int32)) (1 : Int32)).bind fun x6 =>
    some (x6.1, x6.2)
  else
    (some ((zz_u σ 47 0 (0 : Int32)) 47 11)).bind fun x4 =>
    some (x4, (zz_u (zz_u σ 47 0 (0 : Int32)) 47 11 newManner_))

def fX8_saidOf (σ : zz_St) (a_ : Int32) (b_ : Int32) : Option Int32 :=
  (zz_ga (σ 51) 196 (((14 : Int32) * a_) + b_)).bind fun x1 =>
  some x1

def fX8_put (σ : zz_St) (a_ : Int32) (b_ : Int32) (what_ : Int32) : Option zz_St :=
  (zz_pa σ 51 196 (((14 : Int32) * a_) + b_) what_).bind fun σ1 =>
  (zz_pa σ1 51 196 (((14 : Int32) * b_) + a_) what_).bind fun σ3 =>
  some σ3

def fX8_joinHeads_L1 (first_ : Int32) (second_ : Int32) : Nat → Int32 → zz_St → Option (Int32 × zz_St)
  | 0, _, _ => none
  | n + 1, p_, σ =>
    if (σ 47 1) ≤ p_ then
      some (p_, σ)
    else
      ((zz_ga (σ 55) 14 p_).bind fun x5 =>
      if x5 = (zz_max first_ second_) then
        (zz_pa σ 55 14 p_ (zz_min first_ second_)).bind fun σ8 =>
        some σ8
      else
        some σ).bind fun x2 =>
      fX8_joinHeads_L1 first_ second_ n (p_ + (1 : Int32)) x2

def fX8_joinHeads (σ : zz_St) (first_ : Int32) (second_ : Int32) : Option zz_St :=
  (fX8_joinHeads_L1 first_ second_ 1000 (0 : Int32) σ).bind fun q10 =>
  some q10.2

def fX8_startGroups_L1 : Nat → Int32 → zz_St → Option (Int32 × zz_St)
  | 0, _, _ => none
  | n + 1, p_, σ =>
    if (σ 47 1) ≤ p_ then
      some (p_, σ)
    else
      (zz_pa σ 55 14 p_ p_).bind fun σ2 =>
      fX8_startGroups_L1 n (p_ + (1 : Int32)) σ2

def fX8_startGroups_L3 (a_ : Int32) : Nat → Int32 → zz_St → Option (Int32 × zz_St)
  | 0, _, _ => none
  | n + 1, b_, σ =>
    if (σ 47 1) ≤ b_ then
      some (b_, σ)
    else
      (((fX8_saidOf σ a_ b_).bind fun x16 =>
      if x16 = (1 : Int32) then
        (zz_ga (σ 55) 14 a_).bind fun x19 =>
        (zz_ga (σ 55) 14 b_).bind fun x21 =>
        if x19 = x21 then
          some false
        else
          some true
      else
        some false).bind fun b11 =>
      if b11 = true then
        (zz_ga (σ 55) 14 a_).bind fun x24 =>
        (zz_ga (σ 55) 14 b_).bind fun x26 =>
        (fX8_joinHeads σ x24 x26).bind fun x28 =>
        some x28
      else
        some σ).bind fun x8 =>
      fX8_startGroups_L3 a_ n (b_ + (1 : Int32)) x8

def fX8_startGroups_L2 : Nat → Int32 → zz_St → Option (Int32 × zz_St)
  | 0, _, _ => none
  | n + 1, a_, σ =>
    if (σ 47 1) ≤ a_ then
      some (a_, σ)
    else
      (fX8_startGroups_L3 a_ 1000 (0 : Int32) σ).bind fun q30 =>
      fX8_startGroups_L2 n (a_ + (1 : Int32)) q30.2

def fX8_startGroups (σ : zz_St) : Option zz_St :=
  (fX8_startGroups_L1 1000 (0 : Int32) σ).bind fun q4 =>
  (fX8_startGroups_L2 1000 (0 : Int32) q4.2).bind fun q32 =>
  some q32.2

def fX8_say_L2 (a_ : Int32) (b_ : Int32) (what_ : Int32) (was_ : Int32) (p_ : Int32) : Nat → Int32 → zz_St → Option (Int32 × zz_St)
  | 0, _, _ => none
  | n + 1, q_, σ =>
    if (σ 47 1) ≤ q_ then
      some (q_, σ)
    else
      (((fX8_saidOf σ p_ q_).bind fun x31 =>
      if x31 = (2 : Int32) then
        (zz_ga (σ 55) 14 p_).bind fun x34 =>
        (zz_ga (σ 55) 14 q_).bind fun x36 =>
        if x34 = x36 then
          some true
        else
          some false
      else
        some false).bind fun b26 =>
      if b26 = true then
        some (zz_u σ 47 0 (3 : Int32))
      else
        some σ).bind fun x23 =>
      fX8_say_L2 a_ b_ what_ was_ p_ n (q_ + (1 : Int32)) x23

def fX8_say_L1 (a_ : Int32) (b_ : Int32) (what_ : Int32) (was_ : Int32) : Nat → Int32 → zz_St → Option (Int32 × zz_St)
  | 0, _, _ => none
  | n + 1, p_, σ =>
    if (σ 47 1) ≤ p_ then
      some (p_, σ)
    else
      (fX8_say_L2 a_ b_ what_ was_ p_ 1000 (0 : Int32) σ).bind fun q39 =>
      fX8_say_L1 a_ b_ what_ was_ n (p_ + (1 : Int32)) q39.2

def fX8_say (σ : zz_St) (a_ : Int32) (b_ : Int32) (what_ : Int32) : Option (Int32 × zz_St) :=
  (fX8_arePieces σ a_ b_).bind fun x1 =>
  if x1.1 = 0 then
    some ((0 : Int32), x1.2)
  else
    (if a_ = b_ then
      some true
    else
      (fX8_isIn x1.2 what_ (0 : Int32) (2 : Int32)).bind fun x10 =>
      if x10 = 0 then
        some true
      else
        some false).bind fun b4 =>
    if b4 = true then
      (fX8_no x1.2 (2 : Int32)).bind fun x13 =>
      some (x13.1, x13.2)
    else
      (fX8_saidOf x1.2 a_ b_).bind fun x15 =>
      (fX8_put x1.2 a_ b_ what_).bind fun x17 =>
      (fX8_startGroups x17).bind fun x19 =>
      (fX8_say_L1 a_ b_ what_ x15 1000 (0 : Int32) x19).bind fun q41 =>
      if (q41.2 47 0) = 0 then
        some (x15, q41.2)
      else
        (fX8_put q41.2 a_ b_ x15).bind fun x44 =>
        some ((0 : Int32), x44)

def fX8_areBarred_L2 (σ : zz_St) (first_ : Int32) (second_ : Int32) (a_ : Int32) : Nat → Int32 → Int32 → Option (Int32 × Int32)
  | 0, _, _ => none
  | n + 1, are_, b_ =>
    if (σ 47 1) ≤ b_ then
      some (are_, b_)
    else
      (if are_ = 0 then
        (zz_ga (σ 55) 14 a_).bind fun x7 =>
        if x7 = first_ then
          (zz_ga (σ 55) 14 b_).bind fun x10 =>
          if x10 = second_ then
            (fX8_saidOf σ a_ b_).bind fun x13 =>
            if x13 = (2 : Int32) then
              some true
            else
              some false
          else
            some false
        else
          some false
      else
        some true).bind fun b3 =>
      (some (zz_bi b3)).bind fun x16 =>
      fX8_areBarred_L2 σ first_ second_ a_ n x16 (b_ + (1 : Int32))

def fX8_areBarred_L1 (σ : zz_St) (first_ : Int32) (second_ : Int32) : Nat → Int32 → Int32 → Option (Int32 × Int32)
  | 0, _, _ => none
  | n + 1, are_, a_ =>
    if (σ 47 1) ≤ a_ then
      some (are_, a_)
    else
      (fX8_areBarred_L2 σ first_ second_ a_ 1000 are_ (0 : Int32)).bind fun q18 =>
      fX8_areBarred_L1 σ first_ second_ n q18.1 (a_ + (1 : Int32))

def fX8_areBarred (σ : zz_St) (first_ : Int32) (second_ : Int32) : Option Int32 :=
  (fX8_areBarred_L1 σ first_ second_ 1000 (0 : Int32) (0 : Int32)).bind fun q20 =>
  (zz_bo q20.1).bind fun x22 =>
  some x22

def fX8_linkageOf_L2 (σ : zz_St) (first_ : Int32) (second_ : Int32) (a_ : Int32) : Nat → Int32 → Int32 → Int32 → Int32 → Int32 → Option (Int32 × Int32 × Int32 × Int32 × Int32)
  | 0, _, _, _, _, _ => none
  | n + 1, most_, least_, sum_, many_, b_ =>
    if (σ 47 1) ≤ b_ then
      some (most_, least_, sum_, many_, b_)
    else
      ((zz_ga (σ 55) 14 a_).bind fun x8 =>
      if x8 = first_ then
        (zz_ga (σ 55) 14 b_).bind fun x11 =>
        if x11 = second_ then
          some false
        else
          some true
      else
        some true).bind fun b3 =>
      if b3 = true then
        fX8_linkageOf_L2 σ first_ second_ a_ n most_ least_ sum_ many_ (b_ + (1 : Int32))
      else
        (zz_ga (σ 56) 196 (((14 : Int32) * a_) + b_)).bind fun x14 =>
        (some (zz_max most_ x14)).bind fun x16 =>
        (if least_ = (-1 : Int32) then
          some x14
        else
          some (zz_min least_ x14)).bind fun x18 =>
        (some (sum_ + x14)).bind fun x22 =>
        fX8_linkageOf_L2 σ first_ second_ a_ n x16 x18 x22 (many_ + (1 : Int32)) (b_ + (1 : Int32))

def fX8_linkageOf_L1 (σ : zz_St) (first_ : Int32) (second_ : Int32) : Nat → Int32 → Int32 → Int32 → Int32 → Int32 → Option (Int32 × Int32 × Int32 × Int32 × Int32)
  | 0, _, _, _, _, _ => none
  | n + 1, most_, least_, sum_, many_, a_ =>
    if (σ 47 1) ≤ a_ then
      some (most_, least_, sum_, many_, a_)
    else
      (fX8_linkageOf_L2 σ first_ second_ a_ 1000 most_ least_ sum_ many_ (0 : Int32)).bind fun q24 =>
      fX8_linkageOf_L1 σ first_ second_ n q24.1 q24.2.1 q24.2.2.1 q24.2.2.2.1 (a_ + (1 : Int32))

def fX8_linkageOf (σ : zz_St) (first_ : Int32) (second_ : Int32) : Option Int32 :=
  (fX8_linkageOf_L1 σ first_ second_ 1000 (-1 : Int32) (-1 : Int32) (0 : Int32) (0 : Int32) (0 : Int32)).bind fun q26 =>
  (if (σ 47 11) = 0 then
    some q26.1
  else
    (if (σ 47 11) = (1 : Int32) then
      (zz_dv q26.2.2.1 q26.2.2.2.1).bind fun x36 =>
      some x36
    else
      some q26.2.1).bind fun x32 =>
    some x32).bind fun x28 =>
  some x28

def fX8_makeGroups_L2 (a_ : Int32) : Nat → Int32 → zz_St → Option (Int32 × zz_St)
  | 0, _, _ => none
  | n + 1, b_, σ =>
    if (σ 47 1) ≤ b_ then
      some (b_, σ)
    else
      (if a_ = b_ then
        some (0 : Int32)
      else
        (fX8_affinityOf σ a_ b_).bind fun x9 =>
        some x9).bind fun x5 =>
      (zz_pa σ 56 196 (((14 : Int32) * a_) + b_) x5).bind fun σ11 =>
      fX8_makeGroups_L2 a_ n (b_ + (1 : Int32)) σ11

def fX8_makeGroups_L1 : Nat → Int32 → zz_St → Option (Int32 × zz_St)
  | 0, _, _ => none
  | n + 1, a_, σ =>
    if (σ 47 1) ≤ a_ then
      some (a_, σ)
    else
      (fX8_makeGroups_L2 a_ 1000 (0 : Int32) σ).bind fun q13 =>
      fX8_makeGroups_L1 n (a_ + (1 : Int32)) q13.2

def fX8_makeGroups_L5 (σ : zz_St) (isMore_ : Int32) (first_ : Int32) : Nat → Int32 → Int32 → Int32 → Int32 → Option (Int32 × Int32 × Int32 × Int32)
  | 0, _, _, _, _ => none
  | n + 1, bestFirst_, bestSecond_, best_, second_ =>
    if (σ 47 1) ≤ second_ then
      some (bestFirst_, bestSecond_, best_, second_)
    else
      ((zz_ga (σ 55) 14 first_).bind fun x29 =>
      if x29 = first_ then
        (zz_ga (σ 55) 14 second_).bind fun x32 =>
        if x32 = second_ then
          (fX8_areBarred σ first_ second_).bind fun x35 =>
          if x35 = 0 then
            (fX8_linkageOf σ first_ second_).bind fun x38 =>
            if best_ < x38 then
              some false
            else
              some true
          else
            some true
        else
          some true
      else
        some true).bind fun b24 =>
      if b24 = true then
        fX8_makeGroups_L5 σ isMore_ first_ n bestFirst_ bestSecond_ best_ (second_ + (1 : Int32))
      else
        (fX8_linkageOf σ first_ second_).bind fun x41 =>
        fX8_makeGroups_L5 σ isMore_ first_ n first_ second_ x41 (second_ + (1 : Int32))

def fX8_makeGroups_L4 (σ : zz_St) (isMore_ : Int32) : Nat → Int32 → Int32 → Int32 → Int32 → Option (Int32 × Int32 × Int32 × Int32)
  | 0, _, _, _, _ => none
  | n + 1, bestFirst_, bestSecond_, best_, first_ =>
    if (σ 47 1) ≤ first_ then
      some (bestFirst_, bestSecond_, best_, first_)
    else
      (some (first_ + (1 : Int32))).bind fun x21 =>
      (fX8_makeGroups_L5 σ isMore_ first_ 1000 bestFirst_ bestSecond_ best_ x21).bind fun q43 =>
      fX8_makeGroups_L4 σ isMore_ n q43.1 q43.2.1 q43.2.2.1 (first_ + (1 : Int32))

def fX8_makeGroups_L3 : Nat → Int32 → zz_St → Option (Int32 × zz_St)
  | 0, _, _ => none
  | n + 1, isMore_, σ =>
    if isMore_ = 0 then
      some (isMore_, σ)
    else
      (some ((σ 47 10) - (1 : Int32))).bind fun x18 =>
      (fX8_makeGroups_L4 σ isMore_ 1000 (-1 : Int32) (-1 : Int32) x18 (0 : Int32)).bind fun q45 =>
      (if q45.1 = (-1 : Int32) then
        some false
      else
        some true).bind fun b47 =>
      (some (zz_bi b47)).bind fun x51 =>
      if x51 = 0 then
        fX8_makeGroups_L3 n x51 σ
      else
        (fX8_joinHeads (zz_u σ 47 13 q45.2.2.1) q45.1 q45.2.1).bind fun x54 =>
        fX8_makeGroups_L3 n x51 x54

def fX8_makeGroups (σ : zz_St) : Option zz_St :=
  (fX8_startGroups σ).bind fun x1 =>
  (fX8_makeGroups_L1 1000 (0 : Int32) x1).bind fun q15 =>
  (fX8_makeGroups_L3 1000 (1 : Int32) (zz_u q15.2 47 13 (-1 : Int32))).bind fun q56 =>
  some q56.2

def fX8_countOf_a55_L1 (σ : zz_St) : Nat → Int32 → Int32 → Option (Int32 × Int32)
  | 0, _, _ => none
  | n + 1, many_, p_ =>
    if (σ 47 1) ≤ p_ then
      some (many_, p_)
    else
      ((zz_ga (σ 55) 14 p_).bind fun x5 =>
      if x5 = p_ then
        some (1 : Int32)
      else
        some (0 : Int32)).bind fun x2 =>
      (some (many_ + x2)).bind fun x8 =>
      fX8_countOf_a55_L1 σ n x8 (p_ + (1 : Int32))

def fX8_countOf_a55 (σ : zz_St) : Option Int32 :=
  (fX8_countOf_a55_L1 σ 1000 (0 : Int32) (0 : Int32)).bind fun q10 =>
  some q10.1

def fX8_groupCount (σ : zz_St) : Option (Int32 × zz_St) :=
  (fX8_makeGroups (zz_u σ 47 0 (0 : Int32))).bind fun x1 =>
  (fX8_countOf_a55 x1).bind fun x3 =>
  some (x3, x1)

def fX8_headAt_a55_L1 (σ : zz_St) (index_ : Int32) : Nat → Int32 → Int32 → Option (Int32 ⊕ (Int32 × Int32))
  | 0, _, _ => none
  | n + 1, left_, p_ =>
    (if (σ 47 1) ≤ p_ then
      some false
    else
      if index_ < 0 then
        some false
      else
        some true).bind fun b1 =>
    if b1 = true then
      (zz_ga (σ 55) 14 p_).bind fun x8 =>
      if x8 = p_ then
        if left_ = 0 then
          some (.inl p_)
        else
          fX8_headAt_a55_L1 σ index_ n (left_ + (-1 : Int32)) (p_ + (1 : Int32))
      else
        fX8_headAt_a55_L1 σ index_ n left_ (p_ + (1 : Int32))
    else
      some (.inr (left_, p_))

def fX8_headAt_a55 (σ : zz_St) (index_ : Int32) : Option Int32 :=
  (fX8_headAt_a55_L1 σ index_ 1000 index_ (0 : Int32)).bind fun q12 =>
  match q12 with
  | .inl v14 =>
    some v14
  | .inr w15 =>
    some (-1 : Int32)

def fX8_setOf_a55_L1 (σ : zz_St) (head_ : Int32) : Nat → Int32 → Int32 → Option (Int32 × Int32)
  | 0, _, _ => none
  | n + 1, set_, p_ =>
    if (σ 47 1) ≤ p_ then
      some (set_, p_)
    else
      ((zz_ga (σ 55) 14 p_).bind fun x5 =>
      if x5 = head_ then
        (some (set_ ||| ((1 : Int32) <<< (p_ &&& 31)))).bind fun x8 =>
        some x8
      else
        some set_).bind fun x2 =>
      fX8_setOf_a55_L1 σ head_ n x2 (p_ + (1 : Int32))

def fX8_setOf_a55 (σ : zz_St) (head_ : Int32) : Option Int32 :=
  (fX8_setOf_a55_L1 σ head_ 1000 (0 : Int32) (0 : Int32)).bind fun q10 =>
  some q10.1

def fX8_group (σ : zz_St) (group_ : Int32) : Option (Int32 × zz_St) :=
  (fX8_makeGroups (zz_u σ 47 0 (0 : Int32))).bind fun x1 =>
  (fX8_headAt_a55 x1 group_).bind fun x3 =>
  (if x3 = (-1 : Int32) then
    (fX8_no x1 (1 : Int32)).bind fun x11 =>
    some (x11.1, x11.2)
  else
    (fX8_setOf_a55 x1 x3).bind fun x9 =>
    some (x9, x1)).bind fun x5 =>
  some (x5.1, x5.2)

def fX8_indexOf_a55_L1 (σ : zz_St) (head_ : Int32) : Nat → Int32 → Int32 → Option (Int32 × Int32)
  | 0, _, _ => none
  | n + 1, index_, p_ =>
    if head_ ≤ p_ then
      some (index_, p_)
    else
      ((zz_ga (σ 55) 14 p_).bind fun x5 =>
      if x5 = p_ then
        some (1 : Int32)
      else
        some (0 : Int32)).bind fun x2 =>
      (some (index_ + x2)).bind fun x8 =>
      fX8_indexOf_a55_L1 σ head_ n x8 (p_ + (1 : Int32))

def fX8_indexOf_a55 (σ : zz_St) (head_ : Int32) : Option Int32 :=
  (fX8_indexOf_a55_L1 σ head_ 1000 (0 : Int32) (0 : Int32)).bind fun q10 =>
  some q10.1

def fX8_groupOf (σ : zz_St) (piece_ : Int32) : Option (Int32 × zz_St) :=
  (fX8_isPiece (zz_u σ 47 0 (0 : Int32)) piece_).bind fun x1 =>
  if x1 = 0 then
    (fX8_no (zz_u σ 47 0 (0 : Int32)) (1 : Int32)).bind fun x10 =>
    some (x10.1, x10.2)
  else
    (fX8_makeGroups (zz_u σ 47 0 (0 : Int32))).bind fun x4 =>
    (zz_ga (x4 55) 14 piece_).bind fun x6 =>
    (fX8_indexOf_a55 x4 x6).bind fun x8 =>
    some (x8, x4)

def fX8_linkage (σ : zz_St) (a_ : Int32) (b_ : Int32) : Option (Int32 × zz_St) :=
  (fX8_makeGroups (zz_u σ 47 0 (0 : Int32))).bind fun x1 =>
  (fX8_headAt_a55 x1 a_).bind fun x3 =>
  (fX8_headAt_a55 x1 b_).bind fun x5 =>
  (if x3 = (-1 : Int32) then
    some true
  else
    if x5 = (-1 : Int32) then
      some true
    else
      some false).bind fun b7 =>
  if b7 = true then
    (fX8_no x1 (1 : Int32)).bind fun x14 =>
    some (x14.1, x14.2)
  else
    (if a_ = b_ then
      (fX8_no x1 (2 : Int32)).bind fun x22 =>
      some (x22.1, x22.2)
    else
      (fX8_linkageOf x1 x3 x5).bind fun x20 =>
      some (x20, x1)).bind fun x16 =>
    some (x16.1, x16.2)

def fX8_lastLinkage (σ : zz_St) : Option (Int32 × zz_St) :=
  (fX8_makeGroups (zz_u σ 47 0 (0 : Int32))).bind fun x1 =>
  some ((x1 47 13), x1)

def fX8_undefined_L1 (σ : zz_St) : Nat → Int32 → Int32 → Option (Int32 × Int32)
  | 0, _, _ => none
  | n + 1, set_, name_ =>
    if (16 : Int32) ≤ name_ then
      some (set_, name_)
    else
      ((zz_ga (σ 52) 16 name_).bind fun x5 =>
      if x5 = 0 then
        (some (set_ ||| ((1 : Int32) <<< (name_ &&& 31)))).bind fun x8 =>
        some x8
      else
        some set_).bind fun x2 =>
      fX8_undefined_L1 σ n x2 (name_ + (1 : Int32))

def fX8_undefined (σ : zz_St) : Option Int32 :=
  (fX8_undefined_L1 σ 1000 (0 : Int32) (0 : Int32)).bind fun q10 =>
  some q10.1

def fX8_needsOf (σ : zz_St) (a_ : Int32) (b_ : Int32) : Option Int32 :=
  (fX8_namesOf σ b_ (0 : Int32)).bind fun x1 =>
  (fX8_namesOf σ a_ (2 : Int32)).bind fun x3 =>
  (fX8_undefined σ).bind fun x5 =>
  (some ((x1 &&& x3) &&& x5)).bind fun x7 =>
  ((fX8_namesOf σ b_ (3 : Int32)).bind fun x12 =>
  (fX8_namesOf σ a_ (1 : Int32)).bind fun x14 =>
  (fX8_namesOf σ b_ (1 : Int32)).bind fun x16 =>
  (fX8_namesOf σ a_ (0 : Int32)).bind fun x18 =>
  if ((x7 ||| (x12 &&& x14)) ||| (x16 &&& x18)) = 0 then
    some false
  else
    some true).bind fun b9 =>
  some (zz_bi b9)

def fX8_needs (σ : zz_St) (a_ : Int32) (b_ : Int32) : Option (Int32 × zz_St) :=
  (fX8_arePieces σ a_ b_).bind fun x1 =>
  if x1.1 = 0 then
    some ((0 : Int32), x1.2)
  else
    (if a_ = b_ then
      some (2 : Int32)
    else
      some (0 : Int32)).bind fun x4 =>
    (if ((zz_u x1.2 47 0 x4) 47 0) = 0 then
      (fX8_needsOf (zz_u x1.2 47 0 x4) a_ b_).bind fun x12 =>
      if x12 = 0 then
        some false
      else
        some true
    else
      some false).bind fun b8 =>
    some ((zz_bi b8), (zz_u x1.2 47 0 x4))

def fX8_has (σ : zz_St) (set_ : Int32) (member_ : Int32) : Option Int32 :=
  (if ((set_ >>> (member_ &&& 31)) &&& (1 : Int32)) = (1 : Int32) then
    some true
  else
    some false).bind fun b1 =>
  some (zz_bi b1)

def fX8_setOf_a57_L1 (σ : zz_St) (head_ : Int32) : Nat → Int32 → Int32 → Option (Int32 × Int32)
  | 0, _, _ => none
  | n + 1, set_, p_ =>
    if (σ 47 1) ≤ p_ then
      some (set_, p_)
    else
      ((zz_ga (σ 57) 14 p_).bind fun x5 =>
      if x5 = head_ then
        (some (set_ ||| ((1 : Int32) <<< (p_ &&& 31)))).bind fun x8 =>
        some x8
      else
        some set_).bind fun x2 =>
      fX8_setOf_a57_L1 σ head_ n x2 (p_ + (1 : Int32))

def fX8_setOf_a57 (σ : zz_St) (head_ : Int32) : Option Int32 :=
  (fX8_setOf_a57_L1 σ head_ 1000 (0 : Int32) (0 : Int32)).bind fun q10 =>
  some q10.1

def fX8_makeParcels_L2 (a_ : Int32) : Nat → Int32 → zz_St → Option (Int32 × zz_St)
  | 0, _, _ => none
  | n + 1, b_, σ =>
    if (σ 47 1) ≤ b_ then
      some (b_, σ)
    else
      (((zz_ga (σ 55) 14 a_).bind fun x15 =>
      (zz_ga (σ 55) 14 b_).bind fun x17 =>
      if x15 = x17 then
        some true
      else
        (fX8_needsOf σ a_ b_).bind fun x20 =>
        if x20 = 0 then
          some false
        else
          some true).bind fun b10 =>
      if b10 = true then
        (zz_ga (σ 59) 14 a_).bind fun x23 =>
        (zz_pa σ 59 14 a_ (x23 ||| ((1 : Int32) <<< (b_ &&& 31)))).bind fun σ25 =>
        some σ25
      else
        some σ).bind fun x7 =>
      fX8_makeParcels_L2 a_ n (b_ + (1 : Int32)) x7

def fX8_makeParcels_L1 : Nat → Int32 → zz_St → Option (Int32 × zz_St)
  | 0, _, _ => none
  | n + 1, a_, σ =>
    if (σ 47 1) ≤ a_ then
      some (a_, σ)
    else
      (zz_pa σ 59 14 a_ (0 : Int32)).bind fun σ4 =>
      (fX8_makeParcels_L2 a_ 1000 (0 : Int32) σ4).bind fun q27 =>
      fX8_makeParcels_L1 n (a_ + (1 : Int32)) q27.2

def fX8_makeParcels_L4 (by_ : Int32) : Nat → Int32 → zz_St → Option (Int32 × zz_St)
  | 0, _, _ => none
  | n + 1, a_, σ =>
    if (σ 47 1) ≤ a_ then
      some (a_, σ)
    else
      ((zz_ga (σ 59) 14 a_).bind fun x36 =>
      (fX8_has σ x36 by_).bind fun x38 =>
      if x38 = 0 then
        some σ
      else
        (zz_ga (σ 59) 14 a_).bind fun x41 =>
        (zz_ga (σ 59) 14 by_).bind fun x43 =>
        (zz_pa σ 59 14 a_ (x41 ||| x43)).bind fun σ45 =>
        some σ45).bind fun x33 =>
      fX8_makeParcels_L4 by_ n (a_ + (1 : Int32)) x33

def fX8_makeParcels_L3 : Nat → Int32 → zz_St → Option (Int32 × zz_St)
  | 0, _, _ => none
  | n + 1, by_, σ =>
    if (σ 47 1) ≤ by_ then
      some (by_, σ)
    else
      (fX8_makeParcels_L4 by_ 1000 (0 : Int32) σ).bind fun q47 =>
      fX8_makeParcels_L3 n (by_ + (1 : Int32)) q47.2

def fX8_makeParcels_L6 (a_ : Int32) : Nat → Int32 → zz_St → Option (Int32 × zz_St)
  | 0, _, _ => none
  | n + 1, b_, σ =>
    if b_ < 0 then
      some (b_, σ)
    else
      (((zz_ga (σ 59) 14 a_).bind fun x63 =>
      (fX8_has σ x63 b_).bind fun x65 =>
      if x65 = 0 then
        some false
      else
        (zz_ga (σ 59) 14 b_).bind fun x68 =>
        (fX8_has σ x68 a_).bind fun x70 =>
        if x70 = 0 then
          some false
        else
          some true).bind fun b58 =>
      if b58 = true then
        (zz_pa σ 57 14 a_ b_).bind fun σ73 =>
        some σ73
      else
        some σ).bind fun x55 =>
      fX8_makeParcels_L6 a_ n (b_ + (-1 : Int32)) x55

def fX8_makeParcels_L5 : Nat → Int32 → zz_St → Option (Int32 × zz_St)
  | 0, _, _ => none
  | n + 1, a_, σ =>
    if (σ 47 1) ≤ a_ then
      some (a_, σ)
    else
      (zz_pa σ 57 14 a_ a_).bind fun σ52 =>
      (fX8_makeParcels_L6 a_ 1000 a_ σ52).bind fun q75 =>
      fX8_makeParcels_L5 n (a_ + (1 : Int32)) q75.2

def fX8_makeParcels_L8 (σ : zz_St) (done_ : Int32) (all_ : Int32) : Nat → Int32 → Option (Int32)
  | 0, _ => none
  | n + 1, next_ =>
    ((fX8_has σ done_ next_).bind fun x87 =>
    if x87 = 0 then
      (zz_ga (σ 59) 14 next_).bind fun x90 =>
      (zz_ga (σ 57) 14 next_).bind fun x92 =>
      (fX8_setOf_a57 σ x92).bind fun x94 =>
      if ((x90 &&& (done_ ^^^ (-1 : Int32))) &&& (x94 ^^^ (-1 : Int32))) = 0 then
        some false
      else
        some true
    else
      some true).bind fun b82 =>
    if b82 = true then
      fX8_makeParcels_L8 σ done_ all_ n (next_ + (1 : Int32))
    else
      some next_

def fX8_makeParcels_L7 (all_ : Int32) : Nat → Int32 → zz_St → Option (Int32 × zz_St)
  | 0, _, _ => none
  | n + 1, done_, σ =>
    if done_ = all_ then
      some (done_, σ)
    else
      (fX8_makeParcels_L8 σ done_ all_ 1000 (0 : Int32)).bind fun q97 =>
      (zz_ga (σ 57) 14 q97).bind fun x99 =>
      (zz_pa σ 58 14 (σ 47 17) x99).bind fun σ101 =>
      (zz_ga ((zz_u σ101 47 17 ((σ101 47 17) + (1 : Int32))) 57) 14 q97).bind fun x103 =>
      (fX8_setOf_a57 (zz_u σ101 47 17 ((σ101 47 17) + (1 : Int32))) x103).bind fun x105 =>
      (some (done_ ||| x105)).bind fun x107 =>
      fX8_makeParcels_L7 all_ n x107 (zz_u σ101 47 17 ((σ101 47 17) + (1 : Int32)))

def fX8_makeParcels (σ : zz_St) : Option zz_St :=
  (fX8_makeGroups σ).bind fun x1 =>
  (fX8_makeParcels_L1 1000 (0 : Int32) x1).bind fun q29 =>
  (fX8_makeParcels_L3 1000 (0 : Int32) q29.2).bind fun q49 =>
  (fX8_makeParcels_L5 1000 (0 : Int32) q49.2).bind fun q77 =>
  (some (((1 : Int32) <<< (((zz_u q77.2 47 17 (0 : Int32)) 47 1) &&& 31)) - (1 : Int32))).bind fun x79 =>
  (fX8_makeParcels_L7 x79 1000 (0 : Int32) (zz_u q77.2 47 17 (0 : Int32))).bind fun q109 =>
  some q109.2

def fX8_parcelCount (σ : zz_St) : Option (Int32 × zz_St) :=
  (fX8_makeParcels (zz_u σ 47 0 (0 : Int32))).bind fun x1 =>
  some ((x1 47 17), x1)

def fX8_isParcel (σ : zz_St) (parcel_ : Int32) : Option (Int32 × zz_St) :=
  (fX8_makeParcels σ).bind fun x1 =>
  (fX8_isIn x1 parcel_ (0 : Int32) ((x1 47 17) - (1 : Int32))).bind fun x3 =>
  (zz_bo x3).bind fun x5 =>
  some (x5, x1)

def fX8_parcel (σ : zz_St) (parcel_ : Int32) : Option (Int32 × zz_St) :=
  ((fX8_isParcel (zz_u σ 47 0 (0 : Int32)) parcel_).bind fun x4 =>
  if x4.1 = 0 then
    (fX8_no x4.2 (1 : Int32)).bind fun x7 =>
    some (x7.1, x7.2)
  else
    (zz_ga (x4.2 58) 14 parcel_).bind fun x9 =>
    (fX8_setOf_a57 x4.2 x9).bind fun x11 =>
    some (x11, x4.2)).bind fun x1 =>
  some (x1.1, x1.2)

def fX8_parcelOf_L1 (σ : zz_St) (piece_ : Int32) : Nat → Int32 → Option (Int32)
  | 0, _ => none
  | n + 1, parcel_ =>
    (zz_ga (σ 58) 14 parcel_).bind fun x6 =>
    (zz_ga (σ 57) 14 piece_).bind fun x8 =>
    if x6 = x8 then
      some parcel_
    else
      fX8_parcelOf_L1 σ piece_ n (parcel_ + (1 : Int32))

def fX8_parcelOf (σ : zz_St) (piece_ : Int32) : Option (Int32 × zz_St) :=
  (fX8_isPiece (zz_u σ 47 0 (0 : Int32)) piece_).bind fun x1 =>
  if x1 = 0 then
    (fX8_no (zz_u σ 47 0 (0 : Int32)) (1 : Int32)).bind fun x13 =>
    some (x13.1, x13.2)
  else
    (fX8_makeParcels (zz_u σ 47 0 (0 : Int32))).bind fun x4 =>
    (fX8_parcelOf_L1 x4 piece_ 1000 (0 : Int32)).bind fun q11 =>
    some (q11, x4)

def fX8_knots_L1 (σ : zz_St) : Nat → Int32 → Int32 → Option (Int32 × Int32)
  | 0, _, _ => none
  | n + 1, many_, k_ =>
    if (σ 47 17) ≤ k_ then
      some (many_, k_)
    else
      ((zz_ga (σ 58) 14 k_).bind fun x7 =>
      (fX8_setOf_a57 σ x7).bind fun x9 =>
      (zz_ga (σ 58) 14 k_).bind fun x11 =>
      (fX8_setOf_a55 σ x11).bind fun x13 =>
      if x9 = x13 then
        some (0 : Int32)
      else
        some (1 : Int32)).bind fun x4 =>
      (some (many_ + x4)).bind fun x16 =>
      fX8_knots_L1 σ n x16 (k_ + (1 : Int32))

def fX8_knots (σ : zz_St) : Option (Int32 × zz_St) :=
  (fX8_makeParcels (zz_u σ 47 0 (0 : Int32))).bind fun x1 =>
  (fX8_knots_L1 x1 1000 (0 : Int32) (0 : Int32)).bind fun q18 =>
  some (q18.1, x1)

def fX8_lines_L1 (σ : zz_St) (parcel_ : Int32) : Nat → Int32 → Int32 → Option (Int32 × Int32)
  | 0, _, _ => none
  | n + 1, sum_, p_ =>
    if (σ 47 1) ≤ p_ then
      some (sum_, p_)
    else
      ((zz_ga (σ 57) 14 p_).bind fun x8 =>
      (zz_ga (σ 58) 14 parcel_).bind fun x10 =>
      if x8 = x10 then
        (zz_ga (σ 48) 56 (((4 : Int32) * p_) + (2 : Int32))).bind fun x13 =>
        (zz_ga (σ 48) 56 (((4 : Int32) * p_) + (3 : Int32))).bind fun x15 =>
        some (x13 + x15)
      else
        some (0 : Int32)).bind fun x5 =>
      (some (sum_ + x5)).bind fun x17 =>
      fX8_lines_L1 σ parcel_ n x17 (p_ + (1 : Int32))

def fX8_lines (σ : zz_St) (parcel_ : Int32) : Option (Int32 × zz_St) :=
  (fX8_isParcel (zz_u σ 47 0 (0 : Int32)) parcel_).bind fun x1 =>
  if x1.1 = 0 then
    (fX8_no x1.2 (1 : Int32)).bind fun x21 =>
    some (x21.1, x21.2)
  else
    (fX8_lines_L1 x1.2 parcel_ 1000 (0 : Int32) (0 : Int32)).bind fun q19 =>
    some (q19.1, x1.2)

def fX8_isBroken_L1 (σ : zz_St) (name_ : Int32) (set_ : Int32) : Nat → Int32 → Int32 → Int32 → Option (Int32 × Int32 × Int32)
  | 0, _, _, _ => none
  | n + 1, definitions_, uses_, p_ =>
    if (σ 47 1) ≤ p_ then
      some (definitions_, uses_, p_)
    else
      (fX8_has σ set_ p_).bind fun x10 =>
      if x10 = 0 then
        fX8_isBroken_L1 σ name_ set_ n definitions_ uses_ (p_ + (1 : Int32))
      else
        (fX8_namesOf σ p_ (0 : Int32)).bind fun x13 =>
        (fX8_namesOf σ p_ (1 : Int32)).bind fun x15 =>
        (some (definitions_ + (((x13 >>> (name_ &&& 31)) &&& (1 : Int32)) - ((x15 >>> (name_ &&& 31)) &&& (1 : Int32))))).bind fun x17 =>
        (fX8_namesOf σ p_ (2 : Int32)).bind fun x19 =>
        (fX8_namesOf σ p_ (3 : Int32)).bind fun x21 =>
        (some (uses_ + (((x19 >>> (name_ &&& 31)) &&& (1 : Int32)) - ((x21 >>> (name_ &&& 31)) &&& (1 : Int32))))).bind fun x23 =>
        fX8_isBroken_L1 σ name_ set_ n x17 x23 (p_ + (1 : Int32))

def fX8_isBroken (σ : zz_St) (name_ : Int32) (set_ : Int32) : Option Int32 :=
  ((zz_ga (σ 52) 16 name_).bind fun x4 =>
  if x4 = 0 then
    some (0 : Int32)
  else
    some (1 : Int32)).bind fun x1 =>
  (zz_ga (σ 53) 16 name_).bind fun x7 =>
  (fX8_isBroken_L1 σ name_ set_ 1000 x1 x7 (0 : Int32)).bind fun q25 =>
  (if (1 : Int32) < q25.1 then
    some true
  else
    if (1 : Int32) ≤ q25.1 then
      some false
    else
      if q25.2.1 ≤ 0 then
        some false
      else
        some true).bind fun b27 =>
  some (zz_bi b27)

def fX8_brokenBy_L1 (σ : zz_St) (set_ : Int32) : Nat → Int32 → Int32 → Option (Int32 × Int32)
  | 0, _, _ => none
  | n + 1, found_, name_ =>
    if (16 : Int32) ≤ name_ then
      some (found_, name_)
    else
      ((fX8_isBroken σ name_ set_).bind fun x5 =>
      if x5 = 0 then
        some found_
      else
        (some (found_ ||| ((1 : Int32) <<< (name_ &&& 31)))).bind fun x8 =>
        some x8).bind fun x2 =>
      fX8_brokenBy_L1 σ set_ n x2 (name_ + (1 : Int32))

def fX8_brokenBy (σ : zz_St) (set_ : Int32) : Option Int32 :=
  (fX8_brokenBy_L1 σ set_ 1000 (0 : Int32) (0 : Int32)).bind fun q10 =>
  some q10.1

def fX8_broken (σ : zz_St) (set_ : Int32) : Option (Int32 × zz_St) :=
  ((fX8_isIn (zz_u σ 47 0 (0 : Int32)) set_ (0 : Int32) (((1 : Int32) <<< (((zz_u σ 47 0 (0 : Int32)) 47 1) &&& 31)) - (1 : Int32))).bind fun x4 =>
  if x4 = 0 then
    (fX8_no (zz_u σ 47 0 (0 : Int32)) (1 : Int32)).bind fun x7 =>
    some (x7.1, x7.2)
  else
    (fX8_brokenBy (zz_u σ 47 0 (0 : Int32)) set_).bind fun x9 =>
    some (x9, (zz_u σ 47 0 (0 : Int32)))).bind fun x1 =>
  some (x1.1, x1.2)

def fX8_piecesOf_L1 (σ : zz_St) (some_ : Int32) : Nat → Int32 → Int32 → Option (Int32 × Int32)
  | 0, _, _ => none
  | n + 1, set_, k_ =>
    if (σ 47 17) ≤ k_ then
      some (set_, k_)
    else
      ((fX8_has σ some_ k_).bind fun x5 =>
      if x5 = 0 then
        some set_
      else
        (zz_ga (σ 58) 14 k_).bind fun x8 =>
        (fX8_setOf_a57 σ x8).bind fun x10 =>
        (some (set_ ||| x10)).bind fun x12 =>
        some x12).bind fun x2 =>
      fX8_piecesOf_L1 σ some_ n x2 (k_ + (1 : Int32))

def fX8_piecesOf (σ : zz_St) (some_ : Int32) : Option Int32 :=
  (fX8_piecesOf_L1 σ some_ 1000 (0 : Int32) (0 : Int32)).bind fun q14 =>
  some q14.1

def fX8_breakageOf_L1 (σ : zz_St) : Nat → Int32 → Int32 → Option (Int32 × Int32)
  | 0, _, _ => none
  | n + 1, sum_, many_ =>
    if (σ 47 17) < many_ then
      some (sum_, many_)
    else
      (fX8_piecesOf σ (((1 : Int32) <<< (many_ &&& 31)) - (1 : Int32))).bind fun x4 =>
      (fX8_brokenBy σ x4).bind fun x6 =>
      (fJ6_bitCount x6).bind fun x8 =>
      (some (sum_ + x8)).bind fun x10 =>
      fX8_breakageOf_L1 σ n x10 (many_ + (1 : Int32))

def fX8_breakageOf (σ : zz_St) : Option (Int32 × zz_St) :=
  (fX8_makeParcels σ).bind fun x1 =>
  (fX8_breakageOf_L1 x1 1000 (0 : Int32) (1 : Int32)).bind fun q12 =>
  some (q12.1, x1)

def fX8_breakage (σ : zz_St) : Option (Int32 × zz_St) :=
  (fX8_breakageOf (zz_u σ 47 0 (0 : Int32))).bind fun x1 =>
  some (x1.1, x1.2)

def fX8_findLeast_L2 (all_ : Int32) (some_ : Int32) : Nat → Int32 → zz_St → Option (Int32 × zz_St)
  | 0, _, _ => none
  | n + 1, k_, σ =>
    if (σ 47 17) ≤ k_ then
      some (k_, σ)
    else
      ((fX8_has σ some_ k_).bind fun x22 =>
      if x22 = 0 then
        (zz_ga (σ 61) 512 some_).bind fun x25 =>
        (zz_ga (σ 60) 512 (some_ ||| ((1 : Int32) <<< (k_ &&& 31)))).bind fun x27 =>
        (zz_ga (σ 61) 512 (some_ ||| ((1 : Int32) <<< (k_ &&& 31)))).bind fun x29 =>
        (zz_pa σ 61 512 some_ (zz_min x25 (x27 + x29))).bind fun σ31 =>
        some σ31
      else
        some σ).bind fun x19 =>
      fX8_findLeast_L2 all_ some_ n (k_ + (1 : Int32)) x19

def fX8_findLeast_L1 (all_ : Int32) : Nat → Int32 → zz_St → Option (Int32 × zz_St)
  | 0, _, _ => none
  | n + 1, some_, σ =>
    if some_ < 0 then
      some (some_, σ)
    else
      (fX8_piecesOf σ some_).bind fun x4 =>
      (fX8_brokenBy σ x4).bind fun x6 =>
      (fJ6_bitCount x6).bind fun x8 =>
      (zz_pa σ 60 512 some_ x8).bind fun σ10 =>
      (if some_ = all_ then
        some (0 : Int32)
      else
        some (2147483647 : Int32)).bind fun x12 =>
      (zz_pa σ10 61 512 some_ x12).bind fun σ16 =>
      (fX8_findLeast_L2 all_ some_ 1000 (0 : Int32) σ16).bind fun q33 =>
      fX8_findLeast_L1 all_ n (some_ + (-1 : Int32)) q33.2

def fX8_findLeast (σ : zz_St) : Option zz_St :=
  (some (((1 : Int32) <<< ((σ 47 17) &&& 31)) - (1 : Int32))).bind fun x1 =>
  (fX8_findLeast_L1 x1 1000 x1 σ).bind fun q35 =>
  some q35.2

def fX8_leastBreakage (σ : zz_St) : Option (Int32 × zz_St) :=
  (fX8_makeParcels (zz_u σ 47 0 (0 : Int32))).bind fun x1 =>
  if (x1 47 17) ≤ (9 : Int32) then
    (fX8_findLeast x1).bind fun x4 =>
    (zz_ga (x4 61) 512 (0 : Int32)).bind fun x6 =>
    some (x6, x4)
  else
    (fX8_no x1 (1 : Int32)).bind fun x8 =>
    some (x8.1, x8.2)

def fX8_best_L2 (σ : zz_St) (place_ : Int32) (some_ : Int32) (k_ : Int32) : Nat → Int32 → Option (Int32)
  | 0, _ => none
  | n + 1, chosen_ =>
    ((fX8_has σ some_ chosen_).bind fun x15 =>
    if x15 = 0 then
      (zz_ga (σ 60) 512 (some_ ||| ((1 : Int32) <<< (chosen_ &&& 31)))).bind fun x18 =>
      (zz_ga (σ 61) 512 (some_ ||| ((1 : Int32) <<< (chosen_ &&& 31)))).bind fun x20 =>
      (zz_ga (σ 61) 512 some_).bind fun x22 =>
      if (x18 + x20) = x22 then
        some false
      else
        some true
    else
      some true).bind fun b10 =>
    if b10 = true then
      fX8_best_L2 σ place_ some_ k_ n (chosen_ + (1 : Int32))
    else
      some chosen_

def fX8_best_L1 (σ : zz_St) (place_ : Int32) : Nat → Int32 → Int32 → Int32 → Option (Int32 × Int32 × Int32)
  | 0, _, _, _ => none
  | n + 1, some_, chosen_, k_ =>
    if place_ < k_ then
      some (some_, chosen_, k_)
    else
      (fX8_best_L2 σ place_ some_ k_ 1000 (0 : Int32)).bind fun q25 =>
      (some (some_ ||| ((1 : Int32) <<< (q25 &&& 31)))).bind fun x27 =>
      fX8_best_L1 σ place_ n x27 q25 (k_ + (1 : Int32))

def fX8_best (σ : zz_St) (place_ : Int32) : Option (Int32 × zz_St) :=
  (fX8_makeParcels (zz_u σ 47 0 (0 : Int32))).bind fun x1 =>
  if (x1 47 17) ≤ (9 : Int32) then
    (fX8_isIn x1 place_ (0 : Int32) ((x1 47 17) - (1 : Int32))).bind fun x4 =>
    if x4 = 0 then
      (fX8_no x1 (2 : Int32)).bind fun x31 =>
      some (x31.1, x31.2)
    else
      (fX8_findLeast x1).bind fun x7 =>
      (fX8_best_L1 x7 place_ 1000 (0 : Int32) (0 : Int32) (0 : Int32)).bind fun q29 =>
      some (q29.2.1, x7)
  else
    (fX8_no x1 (1 : Int32)).bind fun x33 =>
    some (x33.1, x33.2)

def fX8_setPurpose (σ : zz_St) (piece_ : Int32) (purpose_ : Int32) : Option (Int32 × zz_St) :=
  (fX8_isPiece (zz_u σ 47 0 (0 : Int32)) piece_).bind fun x1 =>
  if x1 = 0 then
    (fX8_no (zz_u σ 47 0 (0 : Int32)) (1 : Int32)).bind fun x13 =>
    some (x13.1, x13.2)
  else
    (fX8_isIn (zz_u σ 47 0 (0 : Int32)) purpose_ (0 : Int32) (9 : Int32)).bind fun x4 =>
    if x4 = 0 then
      (fX8_no (zz_u σ 47 0 (0 : Int32)) (2 : Int32)).bind fun x11 =>
      some (x11.1, x11.2)
    else
      (zz_ga ((zz_u σ 47 0 (0 : Int32)) 50) 14 piece_).bind fun x7 =>
      (zz_pa (zz_u σ 47 0 (0 : Int32)) 50 14 piece_ purpose_).bind fun σ9 =>
      some (x7, σ9)

def fX8_agreement_L2 (σ : zz_St) (a_ : Int32) : Nat → Int32 → Int32 → Int32 → Option (Int32 × Int32 × Int32)
  | 0, _, _, _ => none
  | n + 1, all_, right_, b_ =>
    if (σ 47 1) ≤ b_ then
      some (all_, right_, b_)
    else
      (((zz_ga (σ 55) 14 a_).bind fun x13 =>
      (zz_ga (σ 55) 14 b_).bind fun x15 =>
      if x13 = x15 then
        some true
      else
        some false).bind fun b10 =>
      ((zz_ga (σ 50) 14 a_).bind fun x21 =>
      (zz_ga (σ 50) 14 b_).bind fun x23 =>
      if x21 = x23 then
        some true
      else
        some false).bind fun b18 =>
      if (zz_bi b10) = (zz_bi b18) then
        some (1 : Int32)
      else
        some (0 : Int32)).bind fun x7 =>
      (some (right_ + x7)).bind fun x27 =>
      fX8_agreement_L2 σ a_ n (all_ + (1 : Int32)) x27 (b_ + (1 : Int32))

def fX8_agreement_L1 (σ : zz_St) : Nat → Int32 → Int32 → Int32 → Option (Int32 × Int32 × Int32)
  | 0, _, _, _ => none
  | n + 1, all_, right_, a_ =>
    if (σ 47 1) ≤ a_ then
      some (all_, right_, a_)
    else
      (some (a_ + (1 : Int32))).bind fun x4 =>
      (fX8_agreement_L2 σ a_ 1000 all_ right_ x4).bind fun q29 =>
      fX8_agreement_L1 σ n q29.1 q29.2.1 (a_ + (1 : Int32))

def fX8_agreement (σ : zz_St) : Option (UInt64 × zz_St) :=
  (fX8_makeGroups (zz_u σ 47 0 (0 : Int32))).bind fun x1 =>
  (fX8_agreement_L1 x1 1000 (0 : Int32) (0 : Int32) (0 : Int32)).bind fun q31 =>
  (if q31.1 = 0 then
    some FP.dconst1
  else
    (zz_dd (FP.i2d q31.2.1) (FP.i2d q31.1)).bind fun x37 =>
    some x37).bind fun x33 =>
  some (x33, x1)

def fX8_digest_L2 (σ : zz_St) (p_ : Int32) : Nat → Int64 → Int32 → Option (Int64 × Int32)
  | 0, _, _ => none
  | n + 1, d_, k_ =>
    if (4 : Int32) ≤ k_ then
      some (d_, k_)
    else
      (zz_ga (σ 48) 56 (((4 : Int32) * p_) + k_)).bind fun x5 =>
      (some ((d_ * (31 : Int64)) + x5.toInt64)).bind fun x7 =>
      fX8_digest_L2 σ p_ n x7 (k_ + (1 : Int32))

def fX8_digest_L3 (σ : zz_St) (p_ : Int32) : Nat → Int64 → Int32 → Option (Int64 × Int32)
  | 0, _, _ => none
  | n + 1, d_, what_ =>
    if (4 : Int32) ≤ what_ then
      some (d_, what_)
    else
      (fX8_namesOf σ p_ what_).bind fun x12 =>
      (some ((d_ * (31 : Int64)) + x12.toInt64)).bind fun x14 =>
      fX8_digest_L3 σ p_ n x14 (what_ + (1 : Int32))

def fX8_digest_L1 (σ : zz_St) : Nat → Int64 → Int32 → Option (Int64 × Int32)
  | 0, _, _ => none
  | n + 1, d_, p_ =>
    if (σ 47 1) ≤ p_ then
      some (d_, p_)
    else
      (fX8_digest_L2 σ p_ 1000 d_ (0 : Int32)).bind fun q9 =>
      (fX8_digest_L3 σ p_ 1000 q9.1 (0 : Int32)).bind fun q16 =>
      (zz_ga (σ 50) 14 p_).bind fun x18 =>
      (some ((q16.1 * (31 : Int64)) + x18.toInt64)).bind fun x20 =>
      fX8_digest_L1 σ n x20 (p_ + (1 : Int32))

def fX8_digest_L4 (σ : zz_St) : Nat → Int64 → Int32 → Option (Int64 × Int32)
  | 0, _, _ => none
  | n + 1, d_, kind_ =>
    if (4 : Int32) ≤ kind_ then
      some (d_, kind_)
    else
      (zz_ga (σ 54) 4 kind_).bind fun x25 =>
      (some ((d_ * (31 : Int64)) + x25.toInt64)).bind fun x27 =>
      fX8_digest_L4 σ n x27 (kind_ + (1 : Int32))

def fX8_digest_L5 (σ : zz_St) : Nat → Int64 → Int32 → Option (Int64 × Int32)
  | 0, _, _ => none
  | n + 1, d_, name_ =>
    if (16 : Int32) ≤ name_ then
      some (d_, name_)
    else
      ((zz_ga (σ 52) 16 name_).bind fun x37 =>
      if x37 = 0 then
        some (0 : Int64)
      else
        some (1 : Int64)).bind fun x34 =>
      (zz_ga (σ 53) 16 name_).bind fun x40 =>
      (some ((((d_ * (31 : Int64)) + x34) * (31 : Int64)) + x40.toInt64)).bind fun x42 =>
      fX8_digest_L5 σ n x42 (name_ + (1 : Int32))

def fX8_digest_L6 (σ : zz_St) (breakage_ : Int32) : Nat → Int64 → Int32 → Option (Int64 × Int32)
  | 0, _, _ => none
  | n + 1, d_, p_ =>
    if (σ 47 1) ≤ p_ then
      some (d_, p_)
    else
      ((zz_ga (σ 55) 14 p_).bind fun x56 =>
      if x56 = p_ then
        (fX8_setOf_a55 σ p_).bind fun x59 =>
        (some ((d_ * (31 : Int64)) + x59.toInt64)).bind fun x61 =>
        some x61
      else
        some d_).bind fun x53 =>
      fX8_digest_L6 σ breakage_ n x53 (p_ + (1 : Int32))

def fX8_digest_L7 (σ : zz_St) (breakage_ : Int32) : Nat → Int64 → Int32 → Option (Int64 × Int32)
  | 0, _, _ => none
  | n + 1, d_, k_ =>
    if (σ 47 17) ≤ k_ then
      some (d_, k_)
    else
      (zz_ga (σ 58) 14 k_).bind fun x68 =>
      (fX8_setOf_a57 σ x68).bind fun x70 =>
      (some ((d_ * (31 : Int64)) + x70.toInt64)).bind fun x72 =>
      fX8_digest_L7 σ breakage_ n x72 (k_ + (1 : Int32))

def fX8_digest (σ : zz_St) : Option (Int64 × zz_St) :=
  (some ((5363 : Int64) + (((zz_u σ 47 0 (0 : Int32)) 47 1)).toInt64)).bind fun x1 =>
  (fX8_digest_L1 (zz_u σ 47 0 (0 : Int32)) 1000 x1 (0 : Int32)).bind fun q22 =>
  (fX8_digest_L4 (zz_u σ 47 0 (0 : Int32)) 1000 q22.1 (0 : Int32)).bind fun q29 =>
  (some ((((((q29.1 * (31 : Int64)) + (((zz_u σ 47 0 (0 : Int32)) 47 9)).toInt64) * (31 : Int64)) + (((zz_u σ 47 0 (0 : Int32)) 47 10)).toInt64) * (31 : Int64)) + (((zz_u σ 47 0 (0 : Int32)) 47 11)).toInt64)).bind fun x31 =>
  (fX8_digest_L5 (zz_u σ 47 0 (0 : Int32)) 1000 x31 (0 : Int32)).bind fun q44 =>
  (fX8_breakageOf (zz_u σ 47 0 (0 : Int32))).bind fun x46 =>
  (fX8_countOf_a55 x46.2).bind fun x48 =>
  (some ((q44.1 * (31 : Int64)) + x48.toInt64)).bind fun x50 =>
  (fX8_digest_L6 x46.2 x46.1 1000 x50 (0 : Int32)).bind fun q63 =>
  (some ((q63.1 * (31 : Int64)) + ((x46.2 47 17)).toInt64)).bind fun x65 =>
  (fX8_digest_L7 x46.2 x46.1 1000 x65 (0 : Int32)).bind fun q74 =>
  some (((q74.1 * (31 : Int64)) + x46.1.toInt64), x46.2)


/-! the functions of the law's own methods, as their text has them (by program) -/
def fL_below (v_ : Int32) (n_ : Int32) : Option Int32 :=
  (zx_rm (v_ &&& (2147483647 : Int32)) n_).bind fun x1 =>
  some x1

def fL_cell (xs : Nat → Int32) (L : Nat) (k_ : Int32) : Option Int32 :=
  (if (Int32.ofNat L) ≤ k_ then
    some ((790386105 : Int32) * (k_ + (3 : Int32)))
  else
    (zz_ga xs L k_).bind fun x5 =>
    some x5).bind fun x1 =>
  some x1

def fL_build_L2 (p_ : Int32) (x_ : Int32) : Nat → Int32 → zz_St → (Nat → Int32) → Option ((Int32 × zz_St × (Nat → Int32)) ⊕ (Int32 × zz_St × (Nat → Int32)))
  | 0, _, _, _ => none
  | n + 1, what_, σ, u1 =>
    if (4 : Int32) ≤ what_ then
      some (.inr (what_, σ, u1))
    else
      (some (x_ >>> (((3 : Int32) + ((5 : Int32) * what_)) &&& 31))).bind fun x43 =>
      ((fL_below x43 (3 : Int32)).bind fun x48 =>
      if x48 = 0 then
        (fL_below (x43 >>> ((2 : Int32) &&& 31)) (6 : Int32)).bind fun x51 =>
        some ((1 : Int32) <<< (x51 &&& 31))
      else
        some (0 : Int32)).bind fun x45 =>
      ((fL_below (x43 >>> ((5 : Int32) &&& 31)) (4 : Int32)).bind fun x56 =>
      if x56 = 0 then
        (fL_below (x43 >>> ((7 : Int32) &&& 31)) (6 : Int32)).bind fun x59 =>
        some ((1 : Int32) <<< (x59 &&& 31))
      else
        some (0 : Int32)).bind fun x53 =>
      (zx_pa u1 112 ((((8 : Int32) * p_) + (4 : Int32)) + what_) (x45 ||| x53)).bind fun y61 =>
      (zz_ga y61 112 ((((8 : Int32) * p_) + (4 : Int32)) + what_)).bind fun x63 =>
      (fX7_setNames σ p_ what_ x63).bind fun x65 =>
      match x65 with
      | (.inr _, _) => none
      | (.inl x65, σ67) =>
        if x65 = 0 then
          fL_build_L2 p_ x_ n (what_ + (1 : Int32)) σ67 y61
        else
          some (.inl ((-1 : Int32), σ67, y61))

def fL_build_L1 (xs : Nat → Int32) (L : Nat) (from_ : Int32) (many_ : Int32) : Nat → Int32 → zz_St → (Nat → Int32) → Option ((Int32 × zz_St × (Nat → Int32)) ⊕ (Int32 × zz_St × (Nat → Int32)))
  | 0, _, _, _ => none
  | n + 1, p_, σ, u1 =>
    if many_ ≤ p_ then
      some (.inr (p_, σ, u1))
    else
      (zx_rm p_ (7 : Int32)).bind fun x6 =>
      (fL_cell xs L ((from_ + (1 : Int32)) + x6)).bind fun x8 =>
      (zz_dv p_ (7 : Int32)).bind fun x10 =>
      (some (x8 >>> ((x10 * (9 : Int32)) &&& 31))).bind fun x12 =>
      (fL_below x12 (2 : Int32)).bind fun x14 =>
      (zx_pa u1 112 ((8 : Int32) * p_) x14).bind fun y16 =>
      (fL_below (x12 >>> ((1 : Int32) &&& 31)) (6 : Int32)).bind fun x18 =>
      (zx_pa y16 112 (((8 : Int32) * p_) + (1 : Int32)) ((10 : Int32) * x18)).bind fun y20 =>
      (fL_below (x12 >>> ((4 : Int32) &&& 31)) (30 : Int32)).bind fun x22 =>
      (zx_pa y20 112 (((8 : Int32) * p_) + (2 : Int32)) x22).bind fun y24 =>
      (fL_below (x12 >>> ((6 : Int32) &&& 31)) (20 : Int32)).bind fun x26 =>
      (zx_pa y24 112 (((8 : Int32) * p_) + (3 : Int32)) x26).bind fun y28 =>
      (zz_ga y28 112 ((8 : Int32) * p_)).bind fun x30 =>
      (zz_ga y28 112 (((8 : Int32) * p_) + (1 : Int32))).bind fun x32 =>
      (zz_ga y28 112 (((8 : Int32) * p_) + (2 : Int32))).bind fun x34 =>
      (zz_ga y28 112 (((8 : Int32) * p_) + (3 : Int32))).bind fun x36 =>
      (fX7_addPiece σ x30 x32 x34 x36).bind fun x38 =>
      match x38 with
      | (.inr _, _) => none
      | (.inl x38, σ40) =>
        if x38 = p_ then
          (fL_build_L2 p_ x12 14 (0 : Int32) σ40 y28).bind fun q69 =>
          match q69 with
          | .inl (v71, m76, m77) =>
            some (.inl (v71, m76, m77))
          | .inr w72 =>
            fL_build_L1 xs L from_ many_ n (p_ + (1 : Int32)) w72.2.1 w72.2.2
        else
          some (.inl ((-1 : Int32), σ40, y28))

def fL_build_L3 (xs : Nat → Int32) (L : Nat) (from_ : Int32) : Nat → Int32 → zz_St → (Nat → Int32) → Option ((Int32 × zz_St × (Nat → Int32)) ⊕ (Int32 × zz_St × (Nat → Int32)))
  | 0, _, _, _ => none
  | n + 1, n_, σ, u2 =>
    if (6 : Int32) ≤ n_ then
      some (.inr (n_, σ, u2))
    else
      (fL_cell xs L (from_ + (8 : Int32))).bind fun x88 =>
      (some (x88 >>> (((3 : Int32) * n_) &&& 31))).bind fun x90 =>
      (fL_below x90 (2 : Int32)).bind fun x92 =>
      (zx_pa u2 12 ((2 : Int32) * n_) x92).bind fun y94 =>
      ((fL_below (x90 >>> ((1 : Int32) &&& 31)) (4 : Int32)).bind fun x99 =>
      if x99 = 0 then
        (fL_below (x90 >>> ((2 : Int32) &&& 31)) (2 : Int32)).bind fun x102 =>
        some ((1 : Int32) + x102)
      else
        some (0 : Int32)).bind fun x96 =>
      (zx_pa y94 12 (((2 : Int32) * n_) + (1 : Int32)) x96).bind fun y104 =>
      ((zz_ga y104 12 ((2 : Int32) * n_)).bind fun x109 =>
      if x109 = (1 : Int32) then
        some true
      else
        some false).bind fun b106 =>
      (zz_ga y104 12 (((2 : Int32) * n_) + (1 : Int32))).bind fun x112 =>
      (fX7_setName σ n_ (zz_bi b106) x112).bind fun x114 =>
      match x114 with
      | (.inr _, _) => none
      | (.inl x114, σ116) =>
        ((zz_ga y104 12 ((2 : Int32) * n_)).bind fun x120 =>
        (zz_ga y104 12 (((2 : Int32) * n_) + (1 : Int32))).bind fun x122 =>
        if (x120 + x122) ≤ 0 then
          some false
        else
          some true).bind fun b117 =>
        if x114 = (zz_bi b117) then
          fL_build_L3 xs L from_ n (n_ + (1 : Int32)) σ116 y104
        else
          some (.inl ((-1 : Int32), σ116, y104))

def fL_build (xs : Nat → Int32) (L : Nat) (σ : zz_St) (u1 : (Nat → Int32)) (u2 : (Nat → Int32)) (from_ : Int32) (most_ : Int32) : Option (Int32 × zz_St × (Nat → Int32) × (Nat → Int32)) :=
  (fL_cell xs L from_).bind fun x1 =>
  (fL_below x1 (most_ + (1 : Int32))).bind fun x3 =>
  (fL_build_L1 xs L from_ x3 14 (0 : Int32) σ u1).bind fun q78 =>
  match q78 with
  | .inl (v80, m85, m86) =>
    some (v80, m85, m86, u2)
  | .inr w81 =>
    (fL_build_L3 xs L from_ 14 (0 : Int32) w81.2.1 u2).bind fun q126 =>
    match q126 with
    | .inl (v128, m133, m134) =>
      some (v128, m133, w81.2.2, m134)
    | .inr w129 =>
      ((fX7_pieceCount w129.2.1).bind fun x138 =>
      if x138 = x3 then
        some x3
      else
        some (-1 : Int32)).bind fun x135 =>
      some (x135, w129.2.1, w81.2.2, w129.2.2)

def fL_classes_L1 (many_ : Int32) : Nat → Int32 → (Nat → Int32) → Option (Int32 × (Nat → Int32))
  | 0, _, _ => none
  | n + 1, p_, u2 =>
    if many_ ≤ p_ then
      some (p_, u2)
    else
      (zx_pa u2 14 p_ p_).bind fun y2 =>
      fL_classes_L1 many_ n (p_ + (1 : Int32)) y2

def fL_classes_L4 (u1 : (Nat → Int32)) (many_ : Int32) (p_ : Int32) : Nat → Int32 → (Nat → Int32) → Option (Int32 × (Nat → Int32))
  | 0, _, _ => none
  | n + 1, q_, u2 =>
    if many_ ≤ q_ then
      some (q_, u2)
    else
      ((zz_ga u1 256 (((16 : Int32) * p_) + q_)).bind fun x12 =>
      if x12 = (1 : Int32) then
        (zz_ga u2 14 p_).bind fun x15 =>
        (zz_ga u2 14 q_).bind fun x17 =>
        (zx_pa u2 14 p_ (zz_min x15 x17)).bind fun y19 =>
        some y19
      else
        some u2).bind fun x9 =>
      fL_classes_L4 u1 many_ p_ n (q_ + (1 : Int32)) x9

def fL_classes_L3 (u1 : (Nat → Int32)) (many_ : Int32) : Nat → Int32 → (Nat → Int32) → Option (Int32 × (Nat → Int32))
  | 0, _, _ => none
  | n + 1, p_, u2 =>
    if many_ ≤ p_ then
      some (p_, u2)
    else
      (fL_classes_L4 u1 many_ p_ 14 (0 : Int32) u2).bind fun q21 =>
      fL_classes_L3 u1 many_ n (p_ + (1 : Int32)) q21.2

def fL_classes_L2 (u1 : (Nat → Int32)) (many_ : Int32) : Nat → Int32 → (Nat → Int32) → Option (Int32 × (Nat → Int32))
  | 0, _, _ => none
  | n + 1, round_, u2 =>
    if many_ ≤ round_ then
      some (round_, u2)
    else
      (fL_classes_L3 u1 many_ 14 (0 : Int32) u2).bind fun q23 =>
      fL_classes_L2 u1 many_ n (round_ + (1 : Int32)) q23.2

def fL_classes (many_ : Int32) (u1 : Nat → Int32) : Option (Nat → Int32) :=
  (fL_classes_L1 many_ 14 (0 : Int32) (fun _ => 0)).bind fun q4 =>
  (fL_classes_L2 u1 many_ 14 (0 : Int32) q4.2).bind fun q25 =>
  some q25.2

def fL_speak_L3 (u1 : (Nat → Int32)) (u2 : (Nat → Int32)) (many_ : Int32) (p_ : Int32) : Nat → Int32 → Int32 → Option (Int32 × Int32)
  | 0, _, _ => none
  | n + 1, isPossible_, q_ =>
    if many_ ≤ q_ then
      some (isPossible_, q_)
    else
      (if isPossible_ = 0 then
        some false
      else
        (zz_ga u1 256 (((16 : Int32) * p_) + q_)).bind fun x32 =>
        if x32 = (2 : Int32) then
          (zz_ga u2 14 p_).bind fun x35 =>
          (zz_ga u2 14 q_).bind fun x37 =>
          if x35 = x37 then
            some false
          else
            some true
        else
          some true).bind fun b28 =>
      (some (zz_bi b28)).bind fun x40 =>
      fL_speak_L3 u1 u2 many_ p_ n x40 (q_ + (1 : Int32))

def fL_speak_L2 (u1 : (Nat → Int32)) (u2 : (Nat → Int32)) (many_ : Int32) : Nat → Int32 → Int32 → Option (Int32 × Int32)
  | 0, _, _ => none
  | n + 1, isPossible_, p_ =>
    if many_ ≤ p_ then
      some (isPossible_, p_)
    else
      (fL_speak_L3 u1 u2 many_ p_ 14 isPossible_ (0 : Int32)).bind fun q42 =>
      fL_speak_L2 u1 u2 many_ n q42.1 (p_ + (1 : Int32))

def fL_speak_L1 (xs : Nat → Int32) (L : Nat) (from_ : Int32) (many_ : Int32) : Nat → Int32 → zz_St → (Nat → Int32) → Option ((Int32 × zz_St × (Nat → Int32)) ⊕ (Int32 × zz_St × (Nat → Int32)))
  | 0, _, _, _ => none
  | n + 1, k_, σ, u1 =>
    (if (4 : Int32) ≤ k_ then
      some false
    else
      if many_ ≤ (1 : Int32) then
        some false
      else
        some true).bind fun b1 =>
    if b1 = true then
      (fL_cell xs L (from_ + k_)).bind fun x8 =>
      (fL_below x8 many_).bind fun x10 =>
      (fL_below (x8 >>> ((4 : Int32) &&& 31)) (many_ - (1 : Int32))).bind fun x12 =>
      (zx_rm ((x10 + (1 : Int32)) + x12) many_).bind fun x14 =>
      (fL_below (x8 >>> ((8 : Int32) &&& 31)) (3 : Int32)).bind fun x16 =>
      (zz_ga u1 256 (((16 : Int32) * x10) + x14)).bind fun x18 =>
      (zx_pa u1 256 (((16 : Int32) * x10) + x14) x16).bind fun y20 =>
      (zx_pa y20 256 (((16 : Int32) * x14) + x10) x16).bind fun y22 =>
      (fL_classes many_ y22).bind fun x24 =>
      (fL_speak_L2 y22 x24 many_ 14 (1 : Int32) (0 : Int32)).bind fun q44 =>
      ((fX7_say σ x10 x14 x16).bind fun x46 =>
      match x46 with
      | (.inl x46, σ47) => some (x46, σ47)
      | (.inr E49, σ47) => if E49 = "java/lang/IllegalStateException" then some ((-3 : Int32), σ47) else none).bind fun x50 =>
      (if q44.1 = 0 then
        some (-3 : Int32)
      else
        some x18).bind fun x54 =>
      if x50.1 = x54 then
        if q44.1 = 0 then
          (zx_pa y22 256 (((16 : Int32) * x10) + x14) x18).bind fun y60 =>
          (zx_pa y60 256 (((16 : Int32) * x14) + x10) x18).bind fun y62 =>
          fL_speak_L1 xs L from_ many_ n (k_ + (1 : Int32)) x50.2 y62
        else
          fL_speak_L1 xs L from_ many_ n (k_ + (1 : Int32)) x50.2 y22
      else
        some (.inl ((0 : Int32), x50.2, y22))
    else
      some (.inr (k_, σ, u1))

def fL_speak (xs : Nat → Int32) (L : Nat) (σ : zz_St) (u1 : (Nat → Int32)) (from_ : Int32) (many_ : Int32) : Option (Int32 × zz_St × (Nat → Int32)) :=
  (fL_speak_L1 xs L from_ many_ 14 (0 : Int32) σ u1).bind fun q66 =>
  match q66 with
  | .inl (v68, m73, m74) =>
    (zz_bo v68).bind fun x77 =>
    some (x77, m73, m74)
  | .inr w69 =>
    (zz_bo (1 : Int32)).bind fun x75 =>
    some (x75, w69.2.1, w69.2.2)

def fL_law_L4 (u1 : (Nat → Int32)) (many_ : Int32) (set_ : Int32) (h_ : Int32) (p_ : Int32) : Nat → Int32 → Int32 → zz_St → Option (Int32 × Int32 × zz_St)
  | 0, _, _, _ => none
  | n + 1, isBarred_, q_, σ =>
    if many_ ≤ q_ then
      some (isBarred_, q_, σ)
    else
      (if isBarred_ = 0 then
        if ((set_ >>> (p_ &&& 31)) &&& (1 : Int32)) = (1 : Int32) then
          (fX7_group σ h_).bind fun x49 =>
          match x49 with
          | (.inr _, _) => none
          | (.inl x49, σ51) =>
            if ((x49 >>> (q_ &&& 31)) &&& (1 : Int32)) = (1 : Int32) then
              (zz_ga u1 256 (((16 : Int32) * p_) + q_)).bind fun x53 =>
              if x53 = (2 : Int32) then
                some (true, σ51)
              else
                some (false, σ51)
            else
              some (false, σ51)
        else
          some (false, σ)
      else
        some (true, σ)).bind fun b44 =>
      (some (zz_bi b44.1)).bind fun x56 =>
      fL_law_L4 u1 many_ set_ h_ p_ n x56 (q_ + (1 : Int32)) b44.2

def fL_law_L3 (u1 : (Nat → Int32)) (many_ : Int32) (set_ : Int32) (h_ : Int32) : Nat → Int32 → Int32 → zz_St → Option (Int32 × Int32 × zz_St)
  | 0, _, _, _ => none
  | n + 1, isBarred_, p_, σ =>
    if many_ ≤ p_ then
      some (isBarred_, p_, σ)
    else
      (fL_law_L4 u1 many_ set_ h_ p_ 14 isBarred_ (0 : Int32) σ).bind fun q58 =>
      fL_law_L3 u1 many_ set_ h_ n q58.1 (p_ + (1 : Int32)) q58.2.2

def fL_law_L2 (u1 : (Nat → Int32)) (many_ : Int32) (threshold_ : Int32) (g_ : Int32) (set_ : Int32) : Nat → Int32 → zz_St → Option ((Int32 × zz_St) ⊕ (Int32 × zz_St))
  | 0, _, _ => none
  | n + 1, h_, σ =>
    if g_ ≤ h_ then
      some (.inr (h_, σ))
    else
      (fL_law_L3 u1 many_ set_ h_ 14 (0 : Int32) (0 : Int32) σ).bind fun q60 =>
      (if q60.1 = 0 then
        (fX7_linkage q60.2.2 g_ h_).bind fun x75 =>
        match x75 with
        | (.inr _, _) => none
        | (.inl x75, σ77) =>
          if threshold_ ≤ x75 then
            some (true, σ77)
          else
            (fX7_linkage σ77 g_ h_).bind fun x79 =>
            match x79 with
            | (.inr _, _) => none
            | (.inl x79, σ81) =>
              (fX7_linkage σ81 h_ g_).bind fun x82 =>
              match x82 with
              | (.inr _, _) => none
              | (.inl x82, σ84) =>
                if x79 = x82 then
                  some (false, σ84)
                else
                  some (true, σ84)
      else
        (fX7_linkage q60.2.2 g_ h_).bind fun x68 =>
        match x68 with
        | (.inr _, _) => none
        | (.inl x68, σ70) =>
          (fX7_linkage σ70 h_ g_).bind fun x71 =>
          match x71 with
          | (.inr _, _) => none
          | (.inl x71, σ73) =>
            if x68 = x71 then
              some (false, σ73)
            else
              some (true, σ73)).bind fun b62 =>
      if b62.1 = true then
        some (.inl ((0 : Int32), b62.2))
      else
        fL_law_L2 u1 many_ threshold_ g_ set_ n (h_ + (1 : Int32)) b62.2

def fL_law_L1 (u1 : (Nat → Int32)) (many_ : Int32) (threshold_ : Int32) (groups_ : Int32) : Nat → Int32 → Int32 → zz_St → Option ((Int32 × zz_St) ⊕ (Int32 × Int32 × zz_St))
  | 0, _, _, _ => none
  | n + 1, pieces_, g_, σ =>
    if groups_ ≤ g_ then
      some (.inr (pieces_, g_, σ))
    else
      (fX7_group σ g_).bind fun x20 =>
      match x20 with
      | (.inr _, _) => none
      | (.inl x20, σ22) =>
        (if x20 = 0 then
          some (true, σ22)
        else
          if (pieces_ &&& x20) = 0 then
            if g_ ≤ 0 then
              some (false, σ22)
            else
              (fX7_group σ22 (g_ - (1 : Int32))).bind fun x31 =>
              match x31 with
              | (.inr _, _) => none
              | (.inl x31, σ33) =>
                (fJ6_numberOfTrailingZeros x31).bind fun x34 =>
                (fJ6_numberOfTrailingZeros x20).bind fun x36 =>
                if x34 ≤ x36 then
                  some (false, σ33)
                else
                  some (true, σ33)
          else
            some (true, σ22)).bind fun b23 =>
        if b23.1 = true then
          some (.inl ((0 : Int32), b23.2))
        else
          (some (pieces_ ||| x20)).bind fun x39 =>
          (fL_law_L2 u1 many_ threshold_ g_ x20 14 (0 : Int32) b23.2).bind fun q86 =>
          match q86 with
          | .inl (v88, m93) =>
            some (.inl (v88, m93))
          | .inr w89 =>
            fL_law_L1 u1 many_ threshold_ groups_ n x39 (g_ + (1 : Int32)) w89.2

def fL_law_L6 (u1 : (Nat → Int32)) (p_ : Int32) : Nat → Int32 → zz_St → Option ((Int32 × zz_St) ⊕ (Int32 × zz_St))
  | 0, _, _ => none
  | n + 1, q_, σ =>
    if p_ ≤ q_ then
      some (.inr (q_, σ))
    else
      ((fX7_groupOf σ p_).bind fun x119 =>
      match x119 with
      | (.inr _, _) => none
      | (.inl x119, σ121) =>
        (fX7_groupOf σ121 q_).bind fun x122 =>
        match x122 with
        | (.inr _, _) => none
        | (.inl x122, σ124) =>
          if x119 = x122 then
            some (true, σ124)
          else
            some (false, σ124)).bind fun b116 =>
      (some (zz_bi b116.1)).bind fun x126 =>
      ((zz_ga u1 256 (((16 : Int32) * p_) + q_)).bind fun x133 =>
      if x133 = (1 : Int32) then
        if x126 = 0 then
          some true
        else
          (zz_ga u1 256 (((16 : Int32) * p_) + q_)).bind fun x141 =>
          if x141 = (2 : Int32) then
            if x126 = 0 then
              some false
            else
              some true
          else
            some false
      else
        (zz_ga u1 256 (((16 : Int32) * p_) + q_)).bind fun x136 =>
        if x136 = (2 : Int32) then
          if x126 = 0 then
            some false
          else
            some true
        else
          some false).bind fun b128 =>
      if b128 = true then
        some (.inl ((0 : Int32), b116.2))
      else
        (if x126 = 0 then
          some (false, b116.2)
        else
          (fX7_parcelOf b116.2 p_).bind fun x151 =>
          match x151 with
          | (.inr _, _) => none
          | (.inl x151, σ153) =>
            (fX7_parcelOf σ153 q_).bind fun x154 =>
            match x154 with
            | (.inr _, _) => none
            | (.inl x154, σ156) =>
              if x151 = x154 then
                some (false, σ156)
              else
                some (true, σ156)).bind fun b145 =>
        if b145.1 = true then
          some (.inl ((0 : Int32), b145.2))
        else
          ((fX7_needs b145.2 p_ q_).bind fun x163 =>
          match x163 with
          | .inr _ => none
          | .inl x163 =>
            if x163 = 0 then
              (fX7_needs b145.2 q_ p_).bind fun x166 =>
              match x166 with
              | .inr _ => none
              | .inl x166 =>
                if x166 = 0 then
                  some (false, b145.2)
                else
                  (fX7_parcelOf b145.2 q_).bind fun x169 =>
                  match x169 with
                  | (.inr _, _) => none
                  | (.inl x169, σ171) =>
                    (fX7_parcelOf σ171 p_).bind fun x172 =>
                    match x172 with
                    | (.inr _, _) => none
                    | (.inl x172, σ174) =>
                      if x172 ≤ x169 then
                        some (false, σ174)
                      else
                        some (true, σ174)
            else
              (fX7_parcelOf b145.2 p_).bind fun x176 =>
              match x176 with
              | (.inr _, _) => none
              | (.inl x176, σ178) =>
                (fX7_parcelOf σ178 q_).bind fun x179 =>
                match x179 with
                | (.inr _, _) => none
                | (.inl x179, σ181) =>
                  if x176 < x179 then
                    some (true, σ181)
                  else
                    (fX7_needs σ181 q_ p_).bind fun x183 =>
                    match x183 with
                    | .inr _ => none
                    | .inl x183 =>
                      if x183 = 0 then
                        some (false, σ181)
                      else
                        (fX7_parcelOf σ181 q_).bind fun x186 =>
                        match x186 with
                        | (.inr _, _) => none
                        | (.inl x186, σ188) =>
                          (fX7_parcelOf σ188 p_).bind fun x189 =>
                          match x189 with
                          | (.inr _, _) => none
                          | (.inl x189, σ191) =>
                            if x189 ≤ x186 then
                              some (false, σ191)
                            else
                              some (true, σ191)).bind fun b158 =>
          if b158.1 = true then
            some (.inl ((0 : Int32), b158.2))
          else
            fL_law_L6 u1 p_ n (q_ + (1 : Int32)) b158.2

def fL_law_L5 (u1 : (Nat → Int32)) (many_ : Int32) : Nat → Int32 → zz_St → Option ((Int32 × zz_St) ⊕ (Int32 × zz_St))
  | 0, _, _ => none
  | n + 1, p_, σ =>
    if many_ ≤ p_ then
      some (.inr (p_, σ))
    else
      (fL_law_L6 u1 p_ 14 (0 : Int32) σ).bind fun q193 =>
      match q193 with
      | .inl (v195, m200) =>
        some (.inl (v195, m200))
      | .inr w196 =>
        fL_law_L5 u1 many_ n (p_ + (1 : Int32)) w196.2

def fL_law_L7 (parcels_ : Int32) : Nat → Int32 → Int32 → Int32 → zz_St → Option ((Int32 × zz_St) ⊕ (Int32 × Int32 × Int32 × zz_St))
  | 0, _, _, _, _ => none
  | n + 1, applied_, lines_, k_, σ =>
    if parcels_ ≤ k_ then
      some (.inr (applied_, lines_, k_, σ))
    else
      ((fX7_parcel σ k_).bind fun x217 =>
      match x217 with
      | (.inr _, _) => none
      | (.inl x217, σ219) =>
        if x217 = 0 then
          some (true, σ219)
        else
          (fX7_parcel σ219 k_).bind fun x221 =>
          match x221 with
          | (.inr _, _) => none
          | (.inl x221, σ223) =>
            if (applied_ &&& x221) = 0 then
              some (false, σ223)
            else
              some (true, σ223)).bind fun b212 =>
      if b212.1 = true then
        some (.inl ((0 : Int32), b212.2))
      else
        (fX7_parcel b212.2 k_).bind fun x225 =>
        match x225 with
        | (.inr _, _) => none
        | (.inl x225, σ227) =>
          (some (applied_ ||| x225)).bind fun x228 =>
          (fX7_lines σ227 k_).bind fun x230 =>
          match x230 with
          | (.inr _, _) => none
          | (.inl x230, σ232) =>
            (some (lines_ + x230)).bind fun x233 =>
            fL_law_L7 parcels_ n x228 x233 (k_ + (1 : Int32)) σ232

def fL_law_L8 (parcels_ : Int32) : Nat → Int32 → Int32 → Int32 → Int32 → zz_St → Option ((Int32 × zz_St) ⊕ (Int32 × Int32 × Int32 × Int32 × zz_St))
  | 0, _, _, _, _, _ => none
  | n + 1, sum_, taken_, set_, k_, σ =>
    if parcels_ ≤ k_ then
      some (.inr (sum_, taken_, set_, k_, σ))
    else
      (fX7_best σ k_).bind fun x259 =>
      match x259 with
      | (.inr _, _) => none
      | (.inl x259, σ261) =>
        if ((taken_ >>> (x259 &&& 31)) &&& (1 : Int32)) = (1 : Int32) then
          some (.inl ((0 : Int32), σ261))
        else
          (some (taken_ ||| ((1 : Int32) <<< (x259 &&& 31)))).bind fun x263 =>
          (fX7_parcel σ261 x259).bind fun x265 =>
          match x265 with
          | (.inr _, _) => none
          | (.inl x265, σ267) =>
            (some (set_ ||| x265)).bind fun x268 =>
            (fX7_broken σ267 x268).bind fun x270 =>
            match x270 with
            | .inr _ => none
            | .inl x270 =>
              (fJ6_bitCount x270).bind fun x272 =>
              (some (sum_ + x272)).bind fun x274 =>
              fL_law_L8 parcels_ n x274 x263 x268 (k_ + (1 : Int32)) σ267

def fL_main (xs : Nat → Int32) (L : Nat) (u1 : Nat → Int32) (many_ : Int32) (σ : zz_St) : Option (Int32 × zz_St) :=
  (fL_cell xs L (10 : Int32)).bind fun x1 =>
  (fL_below x1 (30 : Int32)).bind fun x3 =>
  (some ((1 : Int32) + x3)).bind fun x5 =>
  (fX7_setThreshold σ x5).bind fun x7 =>
  match x7 with
  | (.inr _, _) => none
  | (.inl x7, σ9) =>
    (fL_cell xs L (10 : Int32)).bind fun x10 =>
    (fL_below (x10 >>> ((6 : Int32) &&& 31)) (3 : Int32)).bind fun x12 =>
    (fX7_setManner σ9 x12).bind fun x14 =>
    match x14 with
    | (.inr _, _) => none
    | (.inl x14, σ16) =>
      (fX7_groupCount σ16).bind fun x17 =>
      (fL_law_L1 u1 many_ x5 x17.1 14 (0 : Int32) (0 : Int32) x17.2).bind fun q94 =>
      match q94 with
      | .inl (v96, m101) =>
        some (v96, m101)
      | .inr w97 =>
        (if w97.1 = (((1 : Int32) <<< (many_ &&& 31)) - (1 : Int32)) then
          (fX7_lastLinkage w97.2.2).bind fun x108 =>
          if x108.1 = (-1 : Int32) then
            some (false, x108.2)
          else
            (fX7_lastLinkage x108.2).bind fun x111 =>
            if x5 ≤ x111.1 then
              some (false, x111.2)
            else
              some (true, x111.2)
        else
          some (true, w97.2.2)).bind fun b102 =>
        if b102.1 = true then
          some ((0 : Int32), b102.2)
        else
          (fL_law_L5 u1 many_ 14 (0 : Int32) b102.2).bind fun q201 =>
          match q201 with
          | .inl (v203, m208) =>
            some (v203, m208)
          | .inr w204 =>
            (fX7_parcelCount w204.2).bind fun x209 =>
            (fL_law_L7 x209.1 14 (0 : Int32) (0 : Int32) (0 : Int32) x209.2).bind fun q235 =>
            match q235 with
            | .inl (v237, m242) =>
              some (v237, m242)
            | .inr w238 =>
              (if w238.1 = w97.1 then
                if x17.1 < x209.1 then
                  some (true, w238.2.2.2)
                else
                  (fX7_knots w238.2.2.2).bind fun x250 =>
                  if x209.1 < x250.1 then
                    some (true, x250.2)
                  else
                    if 0 ≤ w238.2.1 then
                      some (false, x250.2)
                    else
                      some (true, x250.2)
              else
                some (true, w238.2.2.2)).bind fun b243 =>
              if b243.1 = true then
                some ((0 : Int32), b243.2)
              else
                if x209.1 ≤ (9 : Int32) then
                  (fX7_leastBreakage b243.2).bind fun x255 =>
                  match x255 with
                  | (.inr _, _) => none
                  | (.inl x255, σ257) =>
                    (fL_law_L8 x209.1 14 (0 : Int32) (0 : Int32) (0 : Int32) (0 : Int32) σ257).bind fun q276 =>
                    match q276 with
                    | .inl (v278, m283) =>
                      some (v278, m283)
                    | .inr w279 =>
                      (if w279.1 = x255 then
                        (fX7_breakage w279.2.2.2.2).bind fun x288 =>
                        if x288.1 < x255 then
                          some (false, x288.2)
                        else
                          some (true, x288.2)
                      else
                        some (false, w279.2.2.2.2)).bind fun b284 =>
                      some ((zz_bi b284.1), b284.2)
                else
                  some ((1 : Int32), b243.2)


def f_CT_isIndex (x0 : Int32) (x1 : Int32) (σ : Sg) : Option (Int32 × Sg) :=
  if x0 < (nI 0) then
    some ((nI 0), σ)
  else
    if x1 ≤ x0 then
      some ((nI 0), σ)
    else
      some ((nI 1), σ)
def f_CT_isGreat (x0 : Int32) (σ : Sg) : Option (Int32 × Sg) :=
  if x0 < (nI 65) then
    some ((nI 0), σ)
  else
    if (nI 90) < x0 then
      some ((nI 0), σ)
    else
      some ((nI 1), σ)
def f_CT_isSmall (x0 : Int32) (σ : Sg) : Option (Int32 × Sg) :=
  if x0 < (nI 97) then
    some ((nI 0), σ)
  else
    if (nI 122) < x0 then
      some ((nI 0), σ)
    else
      some ((nI 1), σ)
def f_CT_isLetter (x0 : Int32) (σ : Sg) : Option (Int32 × Sg) :=
  bd (f_CT_isSmall x0 σ) fun r1 σ2 =>
  if r1 = (nI 0) then
    bd (f_CT_isGreat x0 σ2) fun r4 σ5 =>
    if r4 = (nI 0) then
      some ((nI 0), σ5)
    else
      some ((nI 1), σ5)
  else
    some ((nI 1), σ2)
def f_CT_isSign (x0 : Int32) (σ : Sg) : Option (Int32 × Sg) :=
  if x0 = (nI 32) then
    some ((nI 1), σ)
  else
    if x0 = (nI 46) then
      some ((nI 1), σ)
    else
      if x0 = (nI 44) then
        some ((nI 1), σ)
      else
        if x0 = (nI 33) then
          some ((nI 1), σ)
        else
          if x0 = (nI 63) then
            some ((nI 1), σ)
          else
            if x0 = (nI 39) then
              some ((nI 1), σ)
            else
              if x0 = (nI 45) then
                some ((nI 1), σ)
              else
                some ((nI 0), σ)
def f_CT_at (a0 n0 : Nat) (x1 : Int32) (σ : Sg) : Option (Int32 × Sg) :=
  if x1 < (nI 0) then
    some ((-5), σ)
  else
    if (nI n0) ≤ x1 then
      some ((-5), σ)
    else
      gd (inb x1 n0) <|
      some ((σ a0 x1.toNatClampNeg), σ)
def f_DR_codeAt (x1 : Int32) (σ : Sg) : Option (Int32 × Sg) :=
  bd (f_CT_at 79 60 x1 σ) fun r1 σ2 =>
  some (r1, σ2)
def f_DR_firstFault_51 (x1 : Int32) (σ : Sg) : Option (Int32 × Sg) :=
  if x1 = (nI 0) then
    some ((σ 78 1), σ)
  else
    some ((-1), σ)
def f_DR_firstFault_4 : Nat → Int32 → Int32 → Sg → Option (Int32 × Sg)
  | 0, _, _, _ => none
  | n9 + 1, x1, x2, σ =>
    if (σ 78 1) ≤ x2 then
      f_DR_firstFault_51 x1 σ
    else
      if (nI 60) ≤ x2 then
        f_DR_firstFault_51 x1 σ
      else
        bd (f_DR_codeAt x2 σ) fun r3 σ4 =>
        bd (f_CT_isLetter r3 σ4) fun r5 σ6 =>
        if r5 = (nI 0) then
          bd (f_CT_isSign r3 σ6) fun r8 σ9 =>
          if r8 = (nI 0) then
            some (x2, σ9)
          else
            f_DR_firstFault_4 n9 x1 (x2 + (nI 1)) σ9
        else
          f_DR_firstFault_4 n9 (nI 1) (x2 + (nI 1)) σ6
def f_DR_firstFault (σ : Sg) : Option (Int32 × Sg) :=
  f_DR_firstFault_4 FU (nI 0) (nI 0) σ
def f_HI_dropOldest_9 : Nat → Int32 → Nat → Sg → Option (Int32 × Sg)
  | 0, _, _, _ => none
  | n9 + 1, x2, c1, σ =>
    if (nI 4) ≤ x2 then
      gd (inb (nI 3) 4) <|
      gd (isSt c1) <|
      lt' (up σ 81 (nI 3).toNatClampNeg (Int32.ofNat c1)) fun σ4 =>
      lt' (up σ4 80 1 (nI 3)) fun σ5 =>
      some (0, σ5)
    else
      gd (inb x2 4) <|
      gd (inb (x2 - (nI 1)) 4) <|
      gd (isSt ((σ 81 x2.toNatClampNeg).toNatClampNeg)) <|
      lt' (up σ 81 (x2 - (nI 1)).toNatClampNeg (Int32.ofNat ((σ 81 x2.toNatClampNeg).toNatClampNeg))) fun σ9 =>
      f_HI_dropOldest_9 n9 (x2 + (nI 1)) c1 σ9
def f_HI_dropOldest (σ : Sg) : Option (Int32 × Sg) :=
  gd (inb (nI 0) 4) <|
  lt' ((σ 81 (nI 0).toNatClampNeg).toNatClampNeg) fun c2 =>
  f_HI_dropOldest_9 FU (nI 1) c2 σ
def f_CT_copyFlags (a0 n0 : Nat) (a1 n1 : Nat) (σ : Sg) : Option (Int32 × Sg) :=
  gd (cpok (imin (nI n0) (nI n1)) n0 n1) <|
  gd (bits (σ a0) (imin (nI n0) (nI n1)).toNatClampNeg) <|
  lt' (upc σ a1 (va_cpy' (σ a0) (σ a1) (imin (nI n0) (nI n1)).toNatClampNeg)) fun σ3 =>
  some (0, σ3)
def f_CT_copyRow (a0 n0 : Nat) (a1 n1 : Nat) (σ : Sg) : Option (Int32 × Sg) :=
  gd (cpok (imin (nI n0) (nI n1)) n0 n1) <|
  lt' (upc σ a1 (va_cpy' (σ a0) (σ a1) (imin (nI n0) (nI n1)).toNatClampNeg)) fun σ2 =>
  some (0, σ2)
def f_ST_copyFrom (a0 : Nat) (a1 : Nat) (σ : Sg) : Option (Int32 × Sg) :=
  lt' (up σ a0 0 (σ a1 0)) fun σ1 =>
  bd (f_CT_copyFlags (a1 + 1) 20 (a0 + 1) 20 σ1) fun r2 σ3 =>
  bd (f_CT_copyRow (a1 + 2) 20 (a0 + 2) 20 σ3) fun r4 σ5 =>
  bd (f_CT_copyRow (a1 + 3) 1200 (a0 + 3) 1200 σ5) fun r6 σ7 =>
  bd (f_CT_copyRow (a1 + 4) 20 (a0 + 4) 20 σ7) fun r8 σ9 =>
  bd (f_CT_copyRow (a1 + 5) 1200 (a0 + 5) 1200 σ9) fun r10 σ11 =>
  bd (f_CT_copyRow (a1 + 6) 20 (a0 + 6) 20 σ11) fun r12 σ13 =>
  bd (f_CT_copyRow (a1 + 7) 20 (a0 + 7) 20 σ13) fun r14 σ15 =>
  bd (f_CT_copyFlags (a1 + 8) 400 (a0 + 8) 400 σ15) fun r16 σ17 =>
  bd (f_CT_copyRow (a1 + 9) 36 (a0 + 9) 36 σ17) fun r18 σ19 =>
  bd (f_CT_copyRow (a1 + 10) 60 (a0 + 10) 60 σ19) fun r20 σ21 =>
  bd (f_CT_copyRow (a1 + 11) 3 (a0 + 11) 3 σ21) fun r22 σ23 =>
  bd (f_CT_copyRow (a1 + 12) 5 (a0 + 12) 5 σ23) fun r24 σ25 =>
  some (0, σ25)
def f_HI_record_12 (σ : Sg) : Option (Int32 × Sg) :=
  bd (f_CT_isIndex (σ 80 1) (nI 4) σ) fun r1 σ2 =>
  if r1 = (nI 0) then
    some (0, σ2)
  else
    gd (inb (σ2 80 1) 4) <|
    gd (isSt ((σ2 81 (σ2 80 1).toNatClampNeg).toNatClampNeg)) <|
    bd (f_ST_copyFrom ((σ2 81 (σ2 80 1).toNatClampNeg).toNatClampNeg) 0 σ2) fun r6 σ7 =>
    lt' (up σ7 80 1 ((σ7 80 1) + (nI 1))) fun σ8 =>
    some (0, σ8)
def f_HI_record (σ : Sg) : Option (Int32 × Sg) :=
  if (σ 80 1) < (nI 4) then
    f_HI_record_12  σ
  else
    bd (f_HI_dropOldest σ) fun r2 σ3 =>
    f_HI_record_12  σ3
def f_DR_length (σ : Sg) : Option (Int32 × Sg) :=
  some ((σ 78 1), σ)
def f_CT_put (a0 n0 : Nat) (x1 : Int32) (x2 : Int32) (σ : Sg) : Option (Int32 × Sg) :=
  if x1 < (nI 0) then
    some (0, σ)
  else
    if (nI n0) ≤ x1 then
      some (0, σ)
    else
      gd (inb x1 n0) <|
      lt' (up σ a0 x1.toNatClampNeg x2) fun σ4 =>
      some (0, σ4)
def f_CT_smallOf (x0 : Int32) (σ : Sg) : Option (Int32 × Sg) :=
  bd (f_CT_isGreat x0 σ) fun r1 σ2 =>
  if r1 = (nI 0) then
    some (x0, σ2)
  else
    some (((x0 - (nI 65)) + (nI 97)), σ2)
def f_ST_coreLengthOf (x1 : Int32) (σ : Sg) : Option (Int32 × Sg) :=
  bd (f_CT_at 6 20 x1 σ) fun r1 σ2 =>
  some (r1, σ2)
def f_ST_addLetter (x1 : Int32) (x2 : Int32) (x3 : Int32) (σ : Sg) : Option (Int32 × Sg) :=
  bd (f_CT_put 3 1200 ((x1 * (nI 60)) + x2) x3 σ) fun r1 σ2 =>
  bd (f_CT_isLetter x3 σ2) fun r3 σ4 =>
  if r3 = (nI 0) then
    some (0, σ4)
  else
    bd (f_ST_coreLengthOf x1 σ4) fun r6 σ7 =>
    bd (f_CT_smallOf x3 σ7) fun r8 σ9 =>
    bd (f_CT_put 5 1200 ((x1 * (nI 60)) + r6) r8 σ9) fun r10 σ11 =>
    bd (f_CT_put 6 20 x1 (r6 + (nI 1)) σ11) fun r12 σ13 =>
    some (0, σ13)
def f_ST_coreLetter (x1 : Int32) (x2 : Int32) (σ : Sg) : Option (Int32 × Sg) :=
  bd (f_ST_coreLengthOf x1 σ) fun r1 σ2 =>
  bd (f_CT_isIndex x2 r1 σ2) fun r3 σ4 =>
  if r3 = (nI 0) then
    some ((-5), σ4)
  else
    bd (f_CT_at 5 1200 ((x1 * (nI 60)) + x2) σ4) fun r6 σ7 =>
    some (r6, σ7)
def f_ST_haveSameCore_17 : Nat → Int32 → Int32 → Int32 → Sg → Option (Int32 × Sg)
  | 0, _, _, _, _ => none
  | n9 + 1, x1, x2, x3, σ =>
    if (nI 60) ≤ x3 then
      some ((nI 1), σ)
    else
      bd (f_ST_coreLengthOf x1 σ) fun r2 σ3 =>
      if r2 ≤ x3 then
        some ((nI 1), σ3)
      else
        bd (f_ST_coreLetter x1 x3 σ3) fun r5 σ6 =>
        bd (f_ST_coreLetter x2 x3 σ6) fun r7 σ8 =>
        if r5 = r7 then
          f_ST_haveSameCore_17 n9 x1 x2 (x3 + (nI 1)) σ8
        else
          some ((nI 0), σ8)
def f_ST_haveSameCore (x1 : Int32) (x2 : Int32) (σ : Sg) : Option (Int32 × Sg) :=
  bd (f_ST_coreLengthOf x1 σ) fun r1 σ2 =>
  bd (f_ST_coreLengthOf x2 σ2) fun r3 σ4 =>
  if r1 = r3 then
    f_ST_haveSameCore_17 FU x1 x2 (nI 0) σ4
  else
    some ((nI 0), σ4)
def f_ST_firstWithCoreOf_2 : Nat → Int32 → Int32 → Sg → Option (Int32 × Sg)
  | 0, _, _, _ => none
  | n9 + 1, x1, x2, σ =>
    if x1 ≤ x2 then
      some (x1, σ)
    else
      if (nI 20) ≤ x2 then
        some (x1, σ)
      else
        bd (f_ST_haveSameCore x2 x1 σ) fun r3 σ4 =>
        if r3 = (nI 0) then
          f_ST_firstWithCoreOf_2 n9 x1 (x2 + (nI 1)) σ4
        else
          some (x2, σ4)
def f_ST_firstWithCoreOf (x1 : Int32) (σ : Sg) : Option (Int32 × Sg) :=
  f_ST_firstWithCoreOf_2 FU x1 (nI 0) σ
def f_ST_add_60 : Nat → Int32 → Int32 → Int32 → Sg → Option (Int32 × Sg)
  | 0, _, _, _, _ => none
  | n9 + 1, x3, x4, x5, σ =>
    if x4 ≤ x5 then
      bd (f_ST_firstWithCoreOf x3 σ) fun r2 σ3 =>
      gd (inb x3 20) <|
      lt' (up σ3 7 x3.toNatClampNeg r2) fun σ5 =>
      lt' (up σ5 0 0 ((σ5 0 0) + (nI 1))) fun σ6 =>
      some (x3, σ6)
    else
      bd (f_DR_codeAt x5 σ) fun r7 σ8 =>
      bd (f_ST_addLetter x3 x5 r7 σ8) fun r9 σ10 =>
      f_ST_add_60 n9 x3 x4 (x5 + (nI 1)) σ10
def f_ST_add (x1 : Int32) (σ : Sg) : Option (Int32 × Sg) :=
  lt' (σ 0 0) fun v1 =>
  bd (f_CT_isIndex v1 (nI 20) σ) fun r2 σ3 =>
  if r2 = (nI 0) then
    some ((-3), σ3)
  else
    gd (inb v1 20) <|
    lt' (up σ3 1 v1.toNatClampNeg (nI 1)) fun σ6 =>
    gd (inb v1 20) <|
    lt' (up σ6 2 v1.toNatClampNeg x1) fun σ8 =>
    bd (f_DR_length σ8) fun r9 σ10 =>
    lt' (imin r9 (nI 60)) fun v11 =>
    gd (inb v1 20) <|
    lt' (up σ10 4 v1.toNatClampNeg v11) fun σ13 =>
    gd (inb v1 20) <|
    lt' (up σ13 6 v1.toNatClampNeg (nI 0)) fun σ15 =>
    f_ST_add_60 FU v1 v11 (nI 0) σ15
def f_ST_captionsSoFar (σ : Sg) : Option (Int32 × Sg) :=
  some ((σ 0 0), σ)
def f_CT_submit (x1 : Int32) (σ : Sg) : Option (Int32 × Sg) :=
  bd (f_CT_isIndex x1 (nI 10) σ) fun r1 σ2 =>
  if r1 = (nI 0) then
    some ((-1), σ2)
  else
    bd (f_DR_firstFault σ2) fun r4 σ5 =>
    if r4 = (-1) then
      bd (f_ST_captionsSoFar σ5) fun r7 σ8 =>
      if r7 < (nI 20) then
        bd (f_HI_record σ8) fun r10 σ11 =>
        bd (f_ST_add x1 σ11) fun r12 σ13 =>
        some (r12, σ13)
      else
        some ((-3), σ8)
    else
      some (((-100) - r4), σ5)
def f_ST_isIn (x1 : Int32) (σ : Sg) : Option (Int32 × Sg) :=
  bd (f_CT_isIndex x1 (nI 20) σ) fun r1 σ2 =>
  if r1 = (nI 0) then
    some ((nI 0), σ2)
  else
    gd (inb x1 20) <|
    if (σ2 1 x1.toNatClampNeg) = (nI 0) then
      some ((nI 0), σ2)
    else
      some ((nI 1), σ2)
def f_ST_captionsIn_4 : Nat → Int32 → Int32 → Sg → Option (Int32 × Sg)
  | 0, _, _, _ => none
  | n9 + 1, x1, x2, σ =>
    if (nI 20) ≤ x2 then
      some (x1, σ)
    else
      bd (f_ST_isIn x2 σ) fun r2 σ3 =>
      if r2 = (nI 0) then
        f_ST_captionsIn_4 n9 x1 (x2 + (nI 1)) σ3
      else
        f_ST_captionsIn_4 n9 (x1 + (nI 1)) (x2 + (nI 1)) σ3
def f_ST_captionsIn (σ : Sg) : Option (Int32 × Sg) :=
  f_ST_captionsIn_4 FU (nI 0) (nI 0) σ
def f_ST_takeOut (x1 : Int32) (σ : Sg) : Option (Int32 × Sg) :=
  bd (f_CT_isIndex x1 (nI 20) σ) fun r1 σ2 =>
  if r1 = (nI 0) then
    some (0, σ2)
  else
    gd (inb x1 20) <|
    lt' (up σ2 1 x1.toNatClampNeg (nI 0)) fun σ5 =>
    some (0, σ5)
def f_CT_withdraw (x1 : Int32) (σ : Sg) : Option (Int32 × Sg) :=
  bd (f_ST_isIn x1 σ) fun r1 σ2 =>
  if r1 = (nI 0) then
    some ((-1), σ2)
  else
    bd (f_HI_record σ2) fun r4 σ5 =>
    bd (f_ST_takeOut x1 σ5) fun r6 σ7 =>
    bd (f_ST_captionsIn σ7) fun r8 σ9 =>
    some (r8, σ9)
def f_AR_fill_5 (a0 n0 : Nat) : Nat → Int32 → Int32 → Int32 → Sg → Option (Int32 × Sg)
  | 0, _, _, _, _ => none
  | n9 + 1, x1, x2, x3, σ =>
    if x3 ≤ x2 then
      some (0, σ)
    else
      gd (inb x2 n0) <|
      lt' (up σ a0 x2.toNatClampNeg x1) fun σ3 =>
      f_AR_fill_5 a0 n0 n9 x1 (x2 + (nI 1)) x3 σ3
def f_AR_fill (a0 n0 : Nat) (x1 : Int32) (σ : Sg) : Option (Int32 × Sg) :=
  f_AR_fill_5 a0 n0 FU x1 (nI 0) (nI n0) σ
def f_ST_areAlike (x1 : Int32) (x2 : Int32) (σ : Sg) : Option (Int32 × Sg) :=
  bd (f_CT_at 7 20 x1 σ) fun r1 σ2 =>
  bd (f_CT_at 7 20 x2 σ2) fun r3 σ4 =>
  if r1 = r3 then
    some ((nI 1), σ4)
  else
    some ((nI 0), σ4)
def f_ST_areLinked (x1 : Int32) (x2 : Int32) (σ : Sg) : Option (Int32 × Sg) :=
  bd (f_CT_isIndex x1 (nI 20) σ) fun r1 σ2 =>
  if r1 = (nI 0) then
    some ((nI 0), σ2)
  else
    bd (f_CT_isIndex x2 (nI 20) σ2) fun r4 σ5 =>
    if r4 = (nI 0) then
      some ((nI 0), σ5)
    else
      gd (inb ((x1 * (nI 20)) + x2) 400) <|
      if (σ5 8 ((x1 * (nI 20)) + x2).toNatClampNeg) = (nI 0) then
        some ((nI 0), σ5)
      else
        some ((nI 1), σ5)
def f_GR_areTied (x1 : Int32) (x2 : Int32) (σ : Sg) : Option (Int32 × Sg) :=
  bd (f_ST_areLinked x1 x2 σ) fun r1 σ2 =>
  if r1 = (nI 0) then
    bd (f_ST_areAlike x1 x2 σ2) fun r4 σ5 =>
    if r4 = (nI 0) then
      some ((nI 0), σ5)
    else
      some ((nI 1), σ5)
  else
    some ((nI 1), σ2)
def f_GR_gather_48 (K23 : Int32 → Int32 → Int32 → Sg → Option (Int32 × Sg)) : Nat → Int32 → Int32 → Int32 → Int32 → Int32 → Sg → Option (Int32 × Sg)
  | 0, _, _, _, _, _, _ => none
  | n9 + 1, x2, x3, x4, x5, x6, σ =>
    if (nI 20) ≤ x6 then
      K23 x2 x3 (x4 + (nI 1)) σ
    else
      gd (inb x6 20) <|
      if (σ 83 x6.toNatClampNeg) = (-5) then
        bd (f_ST_isIn x6 σ) fun r4 σ5 =>
        if r4 = (nI 0) then
          f_GR_gather_48 K23 n9 x2 x3 x4 x5 (x6 + (nI 1)) σ5
        else
          bd (f_GR_areTied x5 x6 σ5) fun r7 σ8 =>
          if r7 = (nI 0) then
            f_GR_gather_48 K23 n9 x2 x3 x4 x5 (x6 + (nI 1)) σ8
          else
            gd (inb x6 20) <|
            lt' (up σ8 83 x6.toNatClampNeg x2) fun σ11 =>
            bd (f_CT_put 84 20 x3 x6 σ11) fun r12 σ13 =>
            f_GR_gather_48 K23 n9 x2 (x3 + (nI 1)) x4 x5 (x6 + (nI 1)) σ13
      else
        f_GR_gather_48 K23 n9 x2 x3 x4 x5 (x6 + (nI 1)) σ
def f_GR_gather_23 : Nat → Int32 → Int32 → Int32 → Sg → Option (Int32 × Sg)
  | 0, _, _, _, _ => none
  | n9 + 1, x2, x3, x4, σ =>
    if x3 ≤ x4 then
      some (0, σ)
    else
      if (nI 20) ≤ x4 then
        some (0, σ)
      else
        gd (inb x4 20) <|
        lt' (σ 84 x4.toNatClampNeg) fun v4 =>
        f_GR_gather_48 (fun x2 x3 x4 σ => f_GR_gather_23 n9 x2 x3 x4 σ) FU x2 x3 x4 v4 (nI 0) σ
def f_GR_gather (x2 : Int32) (σ : Sg) : Option (Int32 × Sg) :=
  bd (f_CT_put 83 20 x2 x2 σ) fun r1 σ2 =>
  bd (f_CT_put 84 20 (nI 0) x2 σ2) fun r3 σ4 =>
  f_GR_gather_23 FU x2 (nI 1) (nI 0) σ4
def f_GR_find_16 : Nat → Int32 → Sg → Option (Int32 × Sg)
  | 0, _, _ => none
  | n9 + 1, x2, σ =>
    if (nI 20) ≤ x2 then
      some (0, σ)
    else
      bd (f_ST_isIn x2 σ) fun r2 σ3 =>
      if r2 = (nI 0) then
        f_GR_find_16 n9 (x2 + (nI 1)) σ3
      else
        gd (inb x2 20) <|
        if (σ3 83 x2.toNatClampNeg) = (-5) then
          lt' (up σ3 82 2 ((σ3 82 2) + (nI 1))) fun σ7 =>
          bd (f_GR_gather x2 σ7) fun r8 σ9 =>
          f_GR_find_16 n9 (x2 + (nI 1)) σ9
        else
          f_GR_find_16 n9 (x2 + (nI 1)) σ3
def f_GR_find (σ : Sg) : Option (Int32 × Sg) :=
  bd (f_AR_fill 83 20 (-5) σ) fun r1 σ2 =>
  lt' (up σ2 82 2 (nI 0)) fun σ3 =>
  f_GR_find_16 FU (nI 0) σ3
def f_GR_headOf (x1 : Int32) (σ : Sg) : Option (Int32 × Sg) :=
  bd (f_CT_at 83 20 x1 σ) fun r1 σ2 =>
  some (r1, σ2)
def f_ST_putLink (x1 : Int32) (x2 : Int32) (x3 : Int32) (σ : Sg) : Option (Int32 × Sg) :=
  bd (f_CT_isIndex x1 (nI 20) σ) fun r1 σ2 =>
  if r1 = (nI 0) then
    some (0, σ2)
  else
    bd (f_CT_isIndex x2 (nI 20) σ2) fun r4 σ5 =>
    if r4 = (nI 0) then
      some (0, σ5)
    else
      gd (inb ((x1 * (nI 20)) + x2) 400) <|
      gd (isbit x3) <|
      lt' (up σ5 8 ((x1 * (nI 20)) + x2).toNatClampNeg x3) fun σ9 =>
      gd (inb ((x2 * (nI 20)) + x1) 400) <|
      gd (isbit x3) <|
      lt' (up σ9 8 ((x2 * (nI 20)) + x1).toNatClampNeg x3) fun σ12 =>
      some (0, σ12)
def f_ST_link (x1 : Int32) (x2 : Int32) (σ : Sg) : Option (Int32 × Sg) :=
  bd (f_ST_putLink x1 x2 (nI 1) σ) fun r1 σ2 =>
  some (0, σ2)
def f_CT_join (x1 : Int32) (x2 : Int32) (σ : Sg) : Option (Int32 × Sg) :=
  bd (f_ST_isIn x1 σ) fun r1 σ2 =>
  if r1 = (nI 0) then
    some ((-1), σ2)
  else
    bd (f_ST_isIn x2 σ2) fun r4 σ5 =>
    if r4 = (nI 0) then
      some ((-1), σ5)
    else
      if x1 = x2 then
        some ((-2), σ5)
      else
        bd (f_GR_find σ5) fun r8 σ9 =>
        bd (f_GR_headOf x1 σ9) fun r10 σ11 =>
        bd (f_GR_headOf x2 σ11) fun r12 σ13 =>
        if r10 = r12 then
          some ((-5), σ13)
        else
          bd (f_HI_record σ13) fun r15 σ16 =>
          bd (f_ST_link x1 x2 σ16) fun r17 σ18 =>
          bd (f_GR_find σ18) fun r19 σ20 =>
          bd (f_GR_headOf x1 σ20) fun r21 σ22 =>
          some (r21, σ22)
def f_ST_cutLinks_2 : Nat → Int32 → Int32 → Sg → Option (Int32 × Sg)
  | 0, _, _, _ => none
  | n9 + 1, x1, x2, σ =>
    if (nI 20) ≤ x2 then
      some (0, σ)
    else
      bd (f_ST_putLink x1 x2 (nI 0) σ) fun r2 σ3 =>
      f_ST_cutLinks_2 n9 x1 (x2 + (nI 1)) σ3
def f_ST_cutLinks (x1 : Int32) (σ : Sg) : Option (Int32 × Sg) :=
  f_ST_cutLinks_2 FU x1 (nI 0) σ
def f_ST_hasLinks_2 : Nat → Int32 → Int32 → Sg → Option (Int32 × Sg)
  | 0, _, _, _ => none
  | n9 + 1, x1, x2, σ =>
    if (nI 20) ≤ x2 then
      some ((nI 0), σ)
    else
      bd (f_ST_areLinked x1 x2 σ) fun r2 σ3 =>
      if r2 = (nI 0) then
        f_ST_hasLinks_2 n9 x1 (x2 + (nI 1)) σ3
      else
        some ((nI 1), σ3)
def f_ST_hasLinks (x1 : Int32) (σ : Sg) : Option (Int32 × Sg) :=
  f_ST_hasLinks_2 FU x1 (nI 0) σ
def f_CT_part (x1 : Int32) (σ : Sg) : Option (Int32 × Sg) :=
  bd (f_ST_isIn x1 σ) fun r1 σ2 =>
  if r1 = (nI 0) then
    some ((-1), σ2)
  else
    bd (f_ST_hasLinks x1 σ2) fun r4 σ5 =>
    if r4 = (nI 0) then
      some ((-5), σ5)
    else
      bd (f_HI_record σ5) fun r7 σ8 =>
      bd (f_ST_cutLinks x1 σ8) fun r9 σ10 =>
      bd (f_GR_find σ10) fun r11 σ12 =>
      bd (f_GR_headOf x1 σ12) fun r13 σ14 =>
      some (r13, σ14)
def f_CT_hasGap_18 (x1 : Int32) (x2 : Int32) (σ : Sg) : Option (Int32 × Sg) :=
  if x1 = (-5) then
    if x2 = (-5) then
      some ((nI 0), σ)
    else
      some ((nI 1), σ)
  else
    some ((nI 0), σ)
def f_CT_hasGap (x0 : Int32) (x1 : Int32) (x2 : Int32) (σ : Sg) : Option (Int32 × Sg) :=
  if x0 = (-5) then
    if x1 = (-5) then
      if x2 = (-5) then
        f_CT_hasGap_18 x1 x2 σ
      else
        some ((nI 1), σ)
    else
      some ((nI 1), σ)
  else
    f_CT_hasGap_18 x1 x2 σ
def f_CT_isTwice_16 (x1 : Int32) (x2 : Int32) (σ : Sg) : Option (Int32 × Sg) :=
  if x1 = (-5) then
    some ((nI 0), σ)
  else
    if x1 = x2 then
      some ((nI 1), σ)
    else
      some ((nI 0), σ)
def f_CT_isTwice (x0 : Int32) (x1 : Int32) (x2 : Int32) (σ : Sg) : Option (Int32 × Sg) :=
  if x0 = (-5) then
    f_CT_isTwice_16 x1 x2 σ
  else
    if x0 = x1 then
      some ((nI 1), σ)
    else
      if x0 = x2 then
        some ((nI 1), σ)
      else
        f_CT_isTwice_16 x1 x2 σ
def f_CT_isWish (x1 : Int32) (σ : Sg) : Option (Int32 × Sg) :=
  if x1 = (-5) then
    some ((nI 1), σ)
  else
    bd (f_ST_isIn x1 σ) fun r2 σ3 =>
    if r2 = (nI 0) then
      some ((nI 0), σ3)
    else
      some ((nI 1), σ3)
def f_ST_fillIn (x1 : Int32) (x2 : Int32) (x3 : Int32) (x4 : Int32) (σ : Sg) : Option (Int32 × Sg) :=
  bd (f_CT_put 9 36 (x1 * (nI 3)) x2 σ) fun r1 σ2 =>
  bd (f_CT_put 9 36 ((x1 * (nI 3)) + (nI 1)) x3 σ2) fun r3 σ4 =>
  bd (f_CT_put 9 36 ((x1 * (nI 3)) + (nI 2)) x4 σ4) fun r5 σ6 =>
  some (0, σ6)
def f_ST_wish (x1 : Int32) (x2 : Int32) (σ : Sg) : Option (Int32 × Sg) :=
  bd (f_CT_at 9 36 ((x1 * (nI 3)) + x2) σ) fun r1 σ2 =>
  some (r1, σ2)
def f_ST_isFilledIn (x1 : Int32) (x2 : Int32) (x3 : Int32) (x4 : Int32) (σ : Sg) : Option (Int32 × Sg) :=
  bd (f_ST_wish x1 (nI 0) σ) fun r1 σ2 =>
  if r1 = x2 then
    bd (f_ST_wish x1 (nI 1) σ2) fun r4 σ5 =>
    if r4 = x3 then
      bd (f_ST_wish x1 (nI 2) σ5) fun r7 σ8 =>
      if r7 = x4 then
        some ((nI 1), σ8)
      else
        some ((nI 0), σ8)
    else
      some ((nI 0), σ5)
  else
    some ((nI 0), σ2)
def f_ST_wishesOf_4 : Nat → Int32 → Int32 → Int32 → Sg → Option (Int32 × Sg)
  | 0, _, _, _, _ => none
  | n9 + 1, x1, x2, x3, σ =>
    if (nI 3) ≤ x3 then
      some (x2, σ)
    else
      bd (f_ST_wish x1 x3 σ) fun r2 σ3 =>
      if r2 = (-5) then
        f_ST_wishesOf_4 n9 x1 x2 (x3 + (nI 1)) σ3
      else
        f_ST_wishesOf_4 n9 x1 (x2 + (nI 1)) (x3 + (nI 1)) σ3
def f_ST_wishesOf (x1 : Int32) (σ : Sg) : Option (Int32 × Sg) :=
  f_ST_wishesOf_4 FU x1 (nI 0) (nI 0) σ
def f_CT_vote (x1 : Int32) (x2 : Int32) (x3 : Int32) (x4 : Int32) (σ : Sg) : Option (Int32 × Sg) :=
  bd (f_CT_isIndex x1 (nI 12) σ) fun r1 σ2 =>
  if r1 = (nI 0) then
    some ((-1), σ2)
  else
    bd (f_CT_isWish x2 σ2) fun r4 σ5 =>
    if r4 = (nI 0) then
      some ((-1), σ5)
    else
      bd (f_CT_isWish x3 σ5) fun r7 σ8 =>
      if r7 = (nI 0) then
        some ((-1), σ8)
      else
        bd (f_CT_isWish x4 σ8) fun r10 σ11 =>
        if r10 = (nI 0) then
          some ((-1), σ11)
        else
          bd (f_CT_hasGap x2 x3 x4 σ11) fun r13 σ14 =>
          if r13 = (nI 0) then
            bd (f_CT_isTwice x2 x3 x4 σ14) fun r16 σ17 =>
            if r16 = (nI 0) then
              bd (f_ST_isFilledIn x1 x2 x3 x4 σ17) fun r19 σ20 =>
              if r19 = (nI 0) then
                bd (f_HI_record σ20) fun r22 σ23 =>
                bd (f_ST_fillIn x1 x2 x3 x4 σ23) fun r24 σ25 =>
                bd (f_ST_wishesOf x1 σ25) fun r26 σ27 =>
                some (r26, σ27)
              else
                some ((-5), σ20)
            else
              some ((-2), σ17)
          else
            some ((-2), σ14)
def f_RA_pointsBy (x1 : Int32) (x2 : Int32) (σ : Sg) : Option (Int32 × Sg) :=
  bd (f_CT_at 90 60 ((x1 * (nI 20)) + x2) σ) fun r1 σ2 =>
  some (r1, σ2)
def f_ST_pointsBy (x1 : Int32) (x2 : Int32) (σ : Sg) : Option (Int32 × Sg) :=
  bd (f_CT_at 10 60 ((x1 * (nI 20)) + x2) σ) fun r1 σ2 =>
  some (r1, σ2)
def f_RA_fillPoints_3 : Nat → Int32 → Int32 → Sg → Option (Int32 × Sg)
  | 0, _, _, _ => none
  | n9 + 1, x3, x4, σ =>
    if (nI 20) ≤ x4 then
      some (0, σ)
    else
      bd (f_GR_headOf x4 σ) fun r2 σ3 =>
      if r2 = (-5) then
        f_RA_fillPoints_3 n9 x3 (x4 + (nI 1)) σ3
      else
        bd (f_RA_pointsBy x3 r2 σ3) fun r5 σ6 =>
        bd (f_ST_pointsBy x3 x4 σ6) fun r7 σ8 =>
        lt' (imax r5 r7) fun v9 =>
        bd (f_CT_put 90 60 ((x3 * (nI 20)) + r2) v9 σ8) fun r10 σ11 =>
        f_RA_fillPoints_3 n9 x3 (x4 + (nI 1)) σ11
def f_RA_fillPoints (x3 : Int32) (σ : Sg) : Option (Int32 × Sg) :=
  f_RA_fillPoints_3 FU x3 (nI 0) σ
def f_GR_isHead (x1 : Int32) (σ : Sg) : Option (Int32 × Sg) :=
  bd (f_CT_isIndex x1 (nI 20) σ) fun r1 σ2 =>
  if r1 = (nI 0) then
    some ((nI 0), σ2)
  else
    gd (inb x1 20) <|
    if (σ2 83 x1.toNatClampNeg) = x1 then
      some ((nI 1), σ2)
    else
      some ((nI 0), σ2)
def f_RA_groupsWithMore_6 : Nat → Int32 → Int32 → Int32 → Int32 → Sg → Option (Int32 × Sg)
  | 0, _, _, _, _, _ => none
  | n9 + 1, x2, x3, x4, x5, σ =>
    if (nI 20) ≤ x5 then
      some (x4, σ)
    else
      bd (f_GR_isHead x5 σ) fun r2 σ3 =>
      if r2 = (nI 0) then
        f_RA_groupsWithMore_6 n9 x2 x3 x4 (x5 + (nI 1)) σ3
      else
        bd (f_RA_pointsBy x2 x5 σ3) fun r5 σ6 =>
        if r5 ≤ x3 then
          f_RA_groupsWithMore_6 n9 x2 x3 x4 (x5 + (nI 1)) σ6
        else
          f_RA_groupsWithMore_6 n9 x2 x3 (x4 + (nI 1)) (x5 + (nI 1)) σ6
def f_RA_groupsWithMore (x2 : Int32) (x3 : Int32) (σ : Sg) : Option (Int32 × Sg) :=
  f_RA_groupsWithMore_6 FU x2 x3 (nI 0) (nI 0) σ
def f_RA_fillRanks_2 : Nat → Int32 → Int32 → Sg → Option (Int32 × Sg)
  | 0, _, _, _ => none
  | n9 + 1, x2, x3, σ =>
    if (nI 20) ≤ x3 then
      some (0, σ)
    else
      bd (f_GR_isHead x3 σ) fun r2 σ3 =>
      if r2 = (nI 0) then
        f_RA_fillRanks_2 n9 x2 (x3 + (nI 1)) σ3
      else
        bd (f_RA_pointsBy x2 x3 σ3) fun r5 σ6 =>
        bd (f_RA_groupsWithMore x2 r5 σ6) fun r7 σ8 =>
        lt' ((nI 1) + r7) fun v9 =>
        bd (f_CT_put 91 60 ((x2 * (nI 20)) + x3) v9 σ8) fun r10 σ11 =>
        gd (inb x3 20) <|
        gd (inb x3 20) <|
        lt' (up σ11 92 x3.toNatClampNeg ((σ11 92 x3.toNatClampNeg) + v9)) fun σ14 =>
        f_RA_fillRanks_2 n9 x2 (x3 + (nI 1)) σ14
def f_RA_fillRanks (x2 : Int32) (σ : Sg) : Option (Int32 × Sg) :=
  f_RA_fillRanks_2 FU x2 (nI 0) σ
def f_RA_fill_26 : Nat → Int32 → Sg → Option (Int32 × Sg)
  | 0, _, _ => none
  | n9 + 1, x3, σ =>
    if (nI 3) ≤ x3 then
      some (0, σ)
    else
      bd (f_RA_fillPoints x3 σ) fun r2 σ3 =>
      bd (f_RA_fillRanks x3 σ3) fun r4 σ5 =>
      f_RA_fill_26 n9 (x3 + (nI 1)) σ5
def f_RA_fill (σ : Sg) : Option (Int32 × Sg) :=
  bd (f_AR_fill 90 60 (nI 0) σ) fun r1 σ2 =>
  bd (f_AR_fill 91 60 (nI 0) σ2) fun r3 σ4 =>
  bd (f_AR_fill 92 20 (nI 0) σ4) fun r5 σ6 =>
  f_RA_fill_26 FU (nI 0) σ6
def f_RA_rankBy (x1 : Int32) (x2 : Int32) (σ : Sg) : Option (Int32 × Sg) :=
  bd (f_CT_at 91 60 ((x1 * (nI 20)) + x2) σ) fun r1 σ2 =>
  some (r1, σ2)
def f_ST_givePoints (x1 : Int32) (x2 : Int32) (x3 : Int32) (σ : Sg) : Option (Int32 × Sg) :=
  bd (f_CT_put 10 60 ((x1 * (nI 20)) + x2) x3 σ) fun r1 σ2 =>
  some (0, σ2)
def f_CT_score (x1 : Int32) (x2 : Int32) (x3 : Int32) (σ : Sg) : Option (Int32 × Sg) :=
  bd (f_CT_isIndex x1 (nI 3) σ) fun r1 σ2 =>
  if r1 = (nI 0) then
    some ((-1), σ2)
  else
    bd (f_ST_isIn x2 σ2) fun r4 σ5 =>
    if r4 = (nI 0) then
      some ((-1), σ5)
    else
      if x3 < (nI 0) then
        some ((-2), σ5)
      else
        if x3 ≤ (nI 10) then
          bd (f_ST_pointsBy x1 x2 σ5) fun r9 σ10 =>
          if r9 = x3 then
            some ((-5), σ10)
          else
            bd (f_HI_record σ10) fun r12 σ13 =>
            bd (f_ST_givePoints x1 x2 x3 σ13) fun r14 σ15 =>
            bd (f_GR_find σ15) fun r16 σ17 =>
            bd (f_RA_fill σ17) fun r18 σ19 =>
            bd (f_GR_headOf x2 σ19) fun r20 σ21 =>
            bd (f_RA_rankBy x1 r20 σ21) fun r22 σ23 =>
            some (r22, σ23)
        else
          some ((-2), σ5)
def f_CT_mostOf (x0 : Int32) (σ : Sg) : Option (Int32 × Sg) :=
  if x0 = (nI 1) then
    some ((nI 5), σ)
  else
    some ((nI 1), σ)
def f_ST_changeSetting (x1 : Int32) (x2 : Int32) (σ : Sg) : Option (Int32 × Sg) :=
  bd (f_CT_put 11 3 x1 x2 σ) fun r1 σ2 =>
  some (0, σ2)
def f_ST_setting (x1 : Int32) (σ : Sg) : Option (Int32 × Sg) :=
  bd (f_CT_at 11 3 x1 σ) fun r1 σ2 =>
  some (r1, σ2)
def f_CT_set (x1 : Int32) (x2 : Int32) (σ : Sg) : Option (Int32 × Sg) :=
  bd (f_CT_isIndex x1 (nI 3) σ) fun r1 σ2 =>
  if r1 = (nI 0) then
    some ((-2), σ2)
  else
    if x2 < (nI 0) then
      some ((-2), σ2)
    else
      bd (f_CT_mostOf x1 σ2) fun r5 σ6 =>
      if x2 ≤ r5 then
        bd (f_ST_setting x1 σ6) fun r8 σ9 =>
        if r8 = x2 then
          some ((-5), σ9)
        else
          bd (f_HI_record σ9) fun r11 σ12 =>
          bd (f_ST_changeSetting x1 x2 σ12) fun r13 σ14 =>
          some (r8, σ14)
      else
        some ((-2), σ6)
def f_ST_changePrize (x1 : Int32) (x2 : Int32) (σ : Sg) : Option (Int32 × Sg) :=
  bd (f_CT_put 12 5 (x1 - (nI 1)) x2 σ) fun r1 σ2 =>
  some (0, σ2)
def f_ST_prizeOf (x1 : Int32) (σ : Sg) : Option (Int32 × Sg) :=
  bd (f_CT_at 12 5 (x1 - (nI 1)) σ) fun r1 σ2 =>
  some (r1, σ2)
def f_CT_prize (x1 : Int32) (x2 : Int32) (σ : Sg) : Option (Int32 × Sg) :=
  if x1 < (nI 1) then
    some ((-2), σ)
  else
    if (nI 5) < x1 then
      some ((-2), σ)
    else
      if x2 < (nI 0) then
        some ((-2), σ)
      else
        if x2 ≤ (nI 999) then
          bd (f_ST_prizeOf x1 σ) fun r5 σ6 =>
          if r5 = x2 then
            some ((-5), σ6)
          else
            bd (f_HI_record σ6) fun r8 σ9 =>
            bd (f_ST_changePrize x1 x2 σ9) fun r10 σ11 =>
            some (r5, σ11)
        else
          some ((-2), σ)
def f_DR_append (x1 : Int32) (σ : Sg) : Option (Int32 × Sg) :=
  if (nI 60) ≤ (σ 78 1) then
    some (0, σ)
  else
    bd (f_CT_put 79 60 (σ 78 1) x1 σ) fun r2 σ3 =>
    lt' (up σ3 78 1 ((σ3 78 1) + (nI 1))) fun σ4 =>
    some (0, σ4)
def f_CT_type (x1 : Int32) (σ : Sg) : Option (Int32 × Sg) :=
  bd (f_DR_length σ) fun r1 σ2 =>
  if r1 < (nI 60) then
    bd (f_DR_append x1 σ2) fun r4 σ5 =>
    bd (f_DR_length σ5) fun r6 σ7 =>
    some (r6, σ7)
  else
    some ((-3), σ2)
def f_DR_empty (σ : Sg) : Option (Int32 × Sg) :=
  lt' (up σ 78 1 (nI 0)) fun σ1 =>
  some (0, σ1)
def f_CT_clearText (σ : Sg) : Option (Int32 × Sg) :=
  bd (f_DR_length σ) fun r1 σ2 =>
  bd (f_DR_empty σ2) fun r3 σ4 =>
  some (r1, σ4)
def f_HI_size (σ : Sg) : Option (Int32 × Sg) :=
  some ((σ 80 1), σ)
def f_HI_takeBack (σ : Sg) : Option (Int32 × Sg) :=
  bd (f_CT_isIndex ((σ 80 1) - (nI 1)) (nI 4) σ) fun r1 σ2 =>
  if r1 = (nI 0) then
    some (0, σ2)
  else
    lt' (up σ2 80 1 ((σ2 80 1) - (nI 1))) fun σ4 =>
    gd (inb (σ4 80 1) 4) <|
    gd (isSt ((σ4 81 (σ4 80 1).toNatClampNeg).toNatClampNeg)) <|
    bd (f_ST_copyFrom 0 ((σ4 81 (σ4 80 1).toNatClampNeg).toNatClampNeg) σ4) fun r7 σ8 =>
    some (0, σ8)
def f_CT_undo (σ : Sg) : Option (Int32 × Sg) :=
  bd (f_HI_size σ) fun r1 σ2 =>
  if r1 = (nI 0) then
    some ((-5), σ2)
  else
    bd (f_HI_takeBack σ2) fun r4 σ5 =>
    bd (f_HI_size σ5) fun r6 σ7 =>
    some (r6, σ7)
def f_CT_keep (σ : Sg) : Option (Int32 × Sg) :=
  bd (f_ST_copyFrom 13 0 σ) fun r1 σ2 =>
  lt' (up σ2 111 4 (nI 1)) fun σ3 =>
  bd (f_ST_captionsIn σ3) fun r4 σ5 =>
  some (r4, σ5)
def f_CT_restore (σ : Sg) : Option (Int32 × Sg) :=
  if (σ 111 4) = (nI 0) then
    some ((-5), σ)
  else
    bd (f_HI_record σ) fun r2 σ3 =>
    bd (f_ST_copyFrom 0 13 σ3) fun r4 σ5 =>
    bd (f_ST_captionsIn σ5) fun r6 σ7 =>
    some (r6, σ7)
def f_CO_firstsOf (x1 : Int32) (σ : Sg) : Option (Int32 × Sg) :=
  bd (f_CT_at 88 20 x1 σ) fun r1 σ2 =>
  some (r1, σ2)
def f_CO_wish (x1 : Int32) (x2 : Int32) (σ : Sg) : Option (Int32 × Sg) :=
  bd (f_CT_at 86 36 ((x1 * (nI 3)) + x2) σ) fun r1 σ2 =>
  some (r1, σ2)
def f_CO_hasGroup_3 : Nat → Int32 → Int32 → Int32 → Sg → Option (Int32 × Sg)
  | 0, _, _, _, _ => none
  | n9 + 1, x2, x3, x4, σ =>
    if (nI 3) ≤ x4 then
      some ((nI 0), σ)
    else
      bd (f_CO_wish x2 x4 σ) fun r2 σ3 =>
      bd (f_GR_headOf r2 σ3) fun r4 σ5 =>
      if r4 = x3 then
        some ((nI 1), σ5)
      else
        f_CO_hasGroup_3 n9 x2 x3 (x4 + (nI 1)) σ5
def f_CO_hasGroup (x2 : Int32) (x3 : Int32) (σ : Sg) : Option (Int32 × Sg) :=
  f_CO_hasGroup_3 FU x2 x3 (nI 0) σ
def f_CO_pointsOf (x1 : Int32) (σ : Sg) : Option (Int32 × Sg) :=
  bd (f_CT_at 87 20 x1 σ) fun r1 σ2 =>
  some (r1, σ2)
def f_CO_fillBallot_6 : Nat → Int32 → Int32 → Int32 → Sg → Option (Int32 × Sg)
  | 0, _, _, _, _ => none
  | n9 + 1, x3, x4, x5, σ =>
    if (nI 3) ≤ x5 then
      some (0, σ)
    else
      bd (f_ST_wish x3 x5 σ) fun r2 σ3 =>
      bd (f_GR_headOf r2 σ3) fun r4 σ5 =>
      if r4 = (-5) then
        f_CO_fillBallot_6 n9 x3 x4 (x5 + (nI 1)) σ5
      else
        bd (f_CO_hasGroup x3 r4 σ5) fun r7 σ8 =>
        if r7 = (nI 0) then
          bd (f_CT_put 86 36 ((x3 * (nI 3)) + x4) r2 σ8) fun r10 σ11 =>
          bd (f_CO_pointsOf r4 σ11) fun r12 σ13 =>
          bd (f_CT_put 87 20 r4 ((r12 + (nI 3)) - x4) σ13) fun r14 σ15 =>
          if x4 = (nI 0) then
            bd (f_CO_firstsOf r4 σ15) fun r17 σ18 =>
            bd (f_CT_put 88 20 r4 (r17 + (nI 1)) σ18) fun r19 σ20 =>
            f_CO_fillBallot_6 n9 x3 (x4 + (nI 1)) (x5 + (nI 1)) σ20
          else
            f_CO_fillBallot_6 n9 x3 (x4 + (nI 1)) (x5 + (nI 1)) σ15
        else
          f_CO_fillBallot_6 n9 x3 x4 (x5 + (nI 1)) σ8
def f_CO_fillBallot (x3 : Int32) (σ : Sg) : Option (Int32 × Sg) :=
  f_CO_fillBallot_6 FU x3 (nI 0) (nI 0) σ
def f_CO_fill_27 : Nat → Int32 → Sg → Option (Int32 × Sg)
  | 0, _, _ => none
  | n9 + 1, x3, σ =>
    if (nI 12) ≤ x3 then
      some (0, σ)
    else
      bd (f_CO_fillBallot x3 σ) fun r2 σ3 =>
      f_CO_fill_27 n9 (x3 + (nI 1)) σ3
def f_CO_fill (σ : Sg) : Option (Int32 × Sg) :=
  bd (f_AR_fill 86 36 (-5) σ) fun r1 σ2 =>
  bd (f_AR_fill 87 20 (nI 0) σ2) fun r3 σ4 =>
  bd (f_AR_fill 88 20 (nI 0) σ4) fun r5 σ6 =>
  f_CO_fill_27 FU (nI 0) σ6
def f_RA_sumOf (x1 : Int32) (σ : Sg) : Option (Int32 × Sg) :=
  bd (f_CT_at 92 20 x1 σ) fun r1 σ2 =>
  some (r1, σ2)
def f_CT_scoreOf (x1 : Int32) (σ : Sg) : Option (Int32 × Sg) :=
  bd (f_CO_pointsOf x1 σ) fun r1 σ2 =>
  bd (f_RA_sumOf x1 σ2) fun r3 σ4 =>
  some ((((nI 10) * r1) - r3), σ4)
def f_RO_roundOf (x1 : Int32) (σ : Sg) : Option (Int32 × Sg) :=
  bd (f_CT_at 96 20 x1 σ) fun r1 σ2 =>
  some (r1, σ2)
def f_CT_keyOf (x1 : Int32) (σ : Sg) : Option (Int32 × Sg) :=
  bd (f_ST_setting (nI 0) σ) fun r1 σ2 =>
  if r1 = (nI 1) then
    bd (f_RO_roundOf x1 σ2) fun r15 σ16 =>
    if r15 = (-5) then
      some ((nI 20), σ16)
    else
      some (r15, σ16)
  else
    bd (f_CT_scoreOf x1 σ2) fun r4 σ5 =>
    bd (f_ST_setting (nI 2) σ5) fun r6 σ7 =>
    if r6 = (nI 0) then
      some (r4, σ7)
    else
      bd (f_CO_firstsOf x1 σ7) fun r9 σ10 =>
      lt' ((r4 * (nI 13)) + r9) fun v11 =>
      bd (f_RA_sumOf x1 σ10) fun r12 σ13 =>
      lt' (((v11 * ((nI 60) + (nI 1))) + (nI 60)) - r12) fun v14 =>
      some (((((v14 * (nI 20)) + (nI 20)) - (nI 1)) - x1), σ13)
def f_OR_clearKeys_2 : Nat → Int32 → Sg → Option (Int32 × Sg)
  | 0, _, _ => none
  | n9 + 1, x1, σ =>
    if (nI 20) ≤ x1 then
      some (0, σ)
    else
      gd (inb x1 20) <|
      lt' (up σ 101 x1.toNatClampNeg (nI 0)) fun σ3 =>
      f_OR_clearKeys_2 n9 (x1 + (nI 1)) σ3
def f_OR_clearKeys (σ : Sg) : Option (Int32 × Sg) :=
  f_OR_clearKeys_2 FU (nI 0) σ
def f_OR_giveKey (x1 : Int32) (x2 : Int32) (σ : Sg) : Option (Int32 × Sg) :=
  bd (f_CT_isIndex x1 (nI 20) σ) fun r1 σ2 =>
  if r1 = (nI 0) then
    some (0, σ2)
  else
    gd (inb x1 20) <|
    lt' (up σ2 101 x1.toNatClampNeg (nI 1)) fun σ5 =>
    gd (inb x1 20) <|
    lt' (up σ5 102 x1.toNatClampNeg x2) fun σ7 =>
    some (0, σ7)
def f_CT_fillKeys_9 : Nat → Int32 → Sg → Option (Int32 × Sg)
  | 0, _, _ => none
  | n9 + 1, x1, σ =>
    if (nI 20) ≤ x1 then
      some (0, σ)
    else
      bd (f_GR_isHead x1 σ) fun r2 σ3 =>
      if r2 = (nI 0) then
        f_CT_fillKeys_9 n9 (x1 + (nI 1)) σ3
      else
        bd (f_CT_keyOf x1 σ3) fun r5 σ6 =>
        bd (f_OR_giveKey x1 r5 σ6) fun r7 σ8 =>
        f_CT_fillKeys_9 n9 (x1 + (nI 1)) σ8
def f_CT_fillKeys (σ : Sg) : Option (Int32 × Sg) :=
  bd (f_OR_clearKeys σ) fun r1 σ2 =>
  f_CT_fillKeys_9 FU (nI 0) σ2
def f_OR_groupsAhead_4 : Nat → Int32 → Int32 → Int32 → Sg → Option (Int32 × Sg)
  | 0, _, _, _, _ => none
  | n9 + 1, x1, x2, x3, σ =>
    if (nI 20) ≤ x3 then
      some (x2, σ)
    else
      gd (inb x3 20) <|
      if (σ 101 x3.toNatClampNeg) = (nI 0) then
        f_OR_groupsAhead_4 n9 x1 x2 (x3 + (nI 1)) σ
      else
        gd (inb x3 20) <|
        bd (f_CT_at 102 20 x1 σ) fun r5 σ6 =>
        if (σ 102 x3.toNatClampNeg) ≤ r5 then
          f_OR_groupsAhead_4 n9 x1 x2 (x3 + (nI 1)) σ6
        else
          f_OR_groupsAhead_4 n9 x1 (x2 + (nI 1)) (x3 + (nI 1)) σ6
def f_OR_groupsAhead (x1 : Int32) (σ : Sg) : Option (Int32 × Sg) :=
  f_OR_groupsAhead_4 FU x1 (nI 0) (nI 0) σ
def f_OR_tiedBelow_5 : Nat → Int32 → Int32 → Int32 → Int32 → Sg → Option (Int32 × Sg)
  | 0, _, _, _, _, _ => none
  | n9 + 1, x1, x2, x3, x4, σ =>
    if (nI 20) ≤ x4 then
      some (x3, σ)
    else
      if x2 ≤ x4 then
        some (x3, σ)
      else
        gd (inb x4 20) <|
        if (σ 101 x4.toNatClampNeg) = (nI 0) then
          f_OR_tiedBelow_5 n9 x1 x2 x3 (x4 + (nI 1)) σ
        else
          gd (inb x4 20) <|
          bd (f_CT_at 102 20 x1 σ) fun r6 σ7 =>
          if (σ 102 x4.toNatClampNeg) = r6 then
            f_OR_tiedBelow_5 n9 x1 x2 (x3 + (nI 1)) (x4 + (nI 1)) σ7
          else
            f_OR_tiedBelow_5 n9 x1 x2 x3 (x4 + (nI 1)) σ7
def f_OR_tiedBelow (x1 : Int32) (x2 : Int32) (σ : Sg) : Option (Int32 × Sg) :=
  f_OR_tiedBelow_5 FU x1 x2 (nI 0) (nI 0) σ
def f_OR_fill_20 : Nat → Int32 → Sg → Option (Int32 × Sg)
  | 0, _, _ => none
  | n9 + 1, x1, σ =>
    if (nI 20) ≤ x1 then
      some (0, σ)
    else
      gd (inb x1 20) <|
      if (σ 101 x1.toNatClampNeg) = (nI 0) then
        f_OR_fill_20 n9 (x1 + (nI 1)) σ
      else
        bd (f_OR_groupsAhead x1 σ) fun r4 σ5 =>
        gd (inb x1 20) <|
        lt' (up σ5 103 x1.toNatClampNeg ((nI 1) + r4)) fun σ7 =>
        bd (f_OR_tiedBelow x1 x1 σ7) fun r8 σ9 =>
        gd (inb x1 20) <|
        lt' (up σ9 104 x1.toNatClampNeg (r4 + r8)) fun σ11 =>
        f_OR_fill_20 n9 (x1 + (nI 1)) σ11
def f_OR_fill (σ : Sg) : Option (Int32 × Sg) :=
  bd (f_AR_fill 103 20 (-5) σ) fun r1 σ2 =>
  bd (f_AR_fill 104 20 (-5) σ2) fun r3 σ4 =>
  f_OR_fill_20 FU (nI 0) σ4
def f_GR_number (σ : Sg) : Option (Int32 × Sg) :=
  some ((σ 82 2), σ)
def f_RO_ballotsFor_4 : Nat → Int32 → Int32 → Int32 → Sg → Option (Int32 × Sg)
  | 0, _, _, _, _ => none
  | n9 + 1, x1, x2, x3, σ =>
    if (nI 12) ≤ x3 then
      some (x2, σ)
    else
      gd (inb x3 12) <|
      if (σ 95 x3.toNatClampNeg) = x1 then
        f_RO_ballotsFor_4 n9 x1 (x2 + (nI 1)) (x3 + (nI 1)) σ
      else
        f_RO_ballotsFor_4 n9 x1 x2 (x3 + (nI 1)) σ
def f_RO_ballotsFor (x1 : Int32) (σ : Sg) : Option (Int32 × Sg) :=
  f_RO_ballotsFor_4 FU x1 (nI 0) (nI 0) σ
def f_RO_beginWith_11 : Nat → Int32 → Sg → Option (Int32 × Sg)
  | 0, _, _ => none
  | n9 + 1, x2, σ =>
    if (nI 20) ≤ x2 then
      some (0, σ)
    else
      bd (f_GR_isHead x2 σ) fun r2 σ3 =>
      gd (inb x2 20) <|
      gd (isbit r2) <|
      lt' (up σ3 94 x2.toNatClampNeg r2) fun σ6 =>
      f_RO_beginWith_11 n9 (x2 + (nI 1)) σ6
def f_RO_beginWith (σ : Sg) : Option (Int32 × Sg) :=
  bd (f_AR_fill 96 20 (-5) σ) fun r1 σ2 =>
  f_RO_beginWith_11 FU (nI 0) σ2
def f_RO_firstLeft_3 : Nat → Int32 → Int32 → Sg → Option (Int32 × Sg)
  | 0, _, _, _ => none
  | n9 + 1, x3, x4, σ =>
    if (nI 3) ≤ x4 then
      some ((-5), σ)
    else
      bd (f_ST_wish x3 x4 σ) fun r2 σ3 =>
      bd (f_GR_headOf r2 σ3) fun r4 σ5 =>
      bd (f_CT_isIndex r4 (nI 20) σ5) fun r6 σ7 =>
      if r6 = (nI 0) then
        f_RO_firstLeft_3 n9 x3 (x4 + (nI 1)) σ7
      else
        gd (inb r4 20) <|
        if (σ7 94 r4.toNatClampNeg) = (nI 0) then
          f_RO_firstLeft_3 n9 x3 (x4 + (nI 1)) σ7
        else
          some (r4, σ7)
def f_RO_firstLeft (x3 : Int32) (σ : Sg) : Option (Int32 × Sg) :=
  f_RO_firstLeft_3 FU x3 (nI 0) σ
def f_RO_choose_2 : Nat → Int32 → Sg → Option (Int32 × Sg)
  | 0, _, _ => none
  | n9 + 1, x3, σ =>
    if (nI 12) ≤ x3 then
      some (0, σ)
    else
      bd (f_RO_firstLeft x3 σ) fun r2 σ3 =>
      gd (inb x3 12) <|
      lt' (up σ3 95 x3.toNatClampNeg r2) fun σ5 =>
      f_RO_choose_2 n9 (x3 + (nI 1)) σ5
def f_RO_choose (σ : Sg) : Option (Int32 × Sg) :=
  f_RO_choose_2 FU (nI 0) σ
def f_RO_leaveOut (x1 : Int32) (x2 : Int32) (σ : Sg) : Option (Int32 × Sg) :=
  bd (f_CT_isIndex x1 (nI 20) σ) fun r1 σ2 =>
  if r1 = (nI 0) then
    some (0, σ2)
  else
    gd (inb x1 20) <|
    lt' (up σ2 94 x1.toNatClampNeg (nI 0)) fun σ5 =>
    gd (inb x1 20) <|
    lt' (up σ5 96 x1.toNatClampNeg x2) fun σ7 =>
    some (0, σ7)
def f_RO_isWeaker (x2 : Int32) (x3 : Int32) (σ : Sg) : Option (Int32 × Sg) :=
  bd (f_RO_ballotsFor x2 σ) fun r1 σ2 =>
  bd (f_RO_ballotsFor x3 σ2) fun r3 σ4 =>
  if r1 = r3 then
    bd (f_RA_sumOf x2 σ4) fun r6 σ7 =>
    bd (f_RA_sumOf x3 σ7) fun r8 σ9 =>
    if r6 = r8 then
      if x2 ≤ x3 then
        some ((nI 0), σ9)
      else
        some ((nI 1), σ9)
    else
      bd (f_RA_sumOf x2 σ9) fun r12 σ13 =>
      bd (f_RA_sumOf x3 σ13) fun r14 σ15 =>
      if r12 ≤ r14 then
        some ((nI 0), σ15)
      else
        some ((nI 1), σ15)
  else
    bd (f_RO_ballotsFor x2 σ4) fun r17 σ18 =>
    bd (f_RO_ballotsFor x3 σ18) fun r19 σ20 =>
    if r19 ≤ r17 then
      some ((nI 0), σ20)
    else
      some ((nI 1), σ20)
def f_RO_weakest_5 : Nat → Int32 → Int32 → Sg → Option (Int32 × Sg)
  | 0, _, _, _ => none
  | n9 + 1, x2, x3, σ =>
    if (nI 20) ≤ x3 then
      some (x2, σ)
    else
      gd (inb x3 20) <|
      if (σ 94 x3.toNatClampNeg) = (nI 0) then
        f_RO_weakest_5 n9 x2 (x3 + (nI 1)) σ
      else
        if x2 = (-5) then
          f_RO_weakest_5 n9 x3 (x3 + (nI 1)) σ
        else
          bd (f_RO_isWeaker x3 x2 σ) fun r5 σ6 =>
          if r5 = (nI 0) then
            f_RO_weakest_5 n9 x2 (x3 + (nI 1)) σ6
          else
            f_RO_weakest_5 n9 x3 (x3 + (nI 1)) σ6
def f_RO_weakest (σ : Sg) : Option (Int32 × Sg) :=
  f_RO_weakest_5 FU (-5) (nI 0) σ
def f_RO_play_27 : Nat → Int32 → Sg → Option (Int32 × Sg)
  | 0, _, _ => none
  | n9 + 1, x4, σ =>
    if (σ 93 6) ≤ x4 then
      some (0, σ)
    else
      bd (f_RO_choose σ) fun r2 σ3 =>
      bd (f_RO_weakest σ3) fun r4 σ5 =>
      bd (f_CT_put 97 20 x4 r4 σ5) fun r6 σ7 =>
      bd (f_RO_ballotsFor r4 σ7) fun r8 σ9 =>
      bd (f_CT_put 98 20 x4 r8 σ9) fun r10 σ11 =>
      bd (f_RO_ballotsFor (-5) σ11) fun r12 σ13 =>
      bd (f_CT_put 99 20 x4 r12 σ13) fun r14 σ15 =>
      bd (f_RO_leaveOut r4 x4 σ15) fun r16 σ17 =>
      f_RO_play_27 n9 (x4 + (nI 1)) σ17
def f_RO_play (σ : Sg) : Option (Int32 × Sg) :=
  bd (f_RO_beginWith σ) fun r1 σ2 =>
  bd (f_GR_number σ2) fun r3 σ4 =>
  lt' (up σ4 93 6 (imin (imax (r3 - (nI 1)) (nI 0)) (nI 20))) fun σ5 =>
  f_RO_play_27 FU (nI 0) σ5
def f_CT_portion (x0 : Int32) (x1 : Int32) (x2 : Int32) (σ : Sg) : Option (Int32 × Sg) :=
  if (nI 1) ≤ x1 then
    gd (nz x1) <|
    lt' (irm x0 x1) fun v3 =>
    gd (nz x1) <|
    if v3 ≤ x2 then
      some (((x0 / x1) + (nI 0)), σ)
    else
      some (((x0 / x1) + (nI 1)), σ)
  else
    some ((nI 0), σ)
def f_GR_membersBelow_5 : Nat → Int32 → Int32 → Int32 → Int32 → Sg → Option (Int32 × Sg)
  | 0, _, _, _, _, _ => none
  | n9 + 1, x1, x2, x3, x4, σ =>
    if (nI 20) ≤ x4 then
      some (x3, σ)
    else
      if x2 ≤ x4 then
        some (x3, σ)
      else
        gd (inb x4 20) <|
        if (σ 83 x4.toNatClampNeg) = x1 then
          f_GR_membersBelow_5 n9 x1 x2 (x3 + (nI 1)) (x4 + (nI 1)) σ
        else
          f_GR_membersBelow_5 n9 x1 x2 x3 (x4 + (nI 1)) σ
def f_GR_membersBelow (x1 : Int32) (x2 : Int32) (σ : Sg) : Option (Int32 × Sg) :=
  f_GR_membersBelow_5 FU x1 x2 (nI 0) (nI 0) σ
def f_GR_sizeOf (x1 : Int32) (σ : Sg) : Option (Int32 × Sg) :=
  bd (f_GR_membersBelow x1 (nI 20) σ) fun r1 σ2 =>
  some (r1, σ2)
def f_OR_placeOf (x1 : Int32) (σ : Sg) : Option (Int32 × Sg) :=
  bd (f_CT_at 103 20 x1 σ) fun r1 σ2 =>
  some (r1, σ2)
def f_OR_tiedWith (x1 : Int32) (σ : Sg) : Option (Int32 × Sg) :=
  bd (f_OR_tiedBelow x1 (nI 20) σ) fun r1 σ2 =>
  some (r1, σ2)
def f_SH_ofGroup (x1 : Int32) (σ : Sg) : Option (Int32 × Sg) :=
  bd (f_CT_at 106 20 x1 σ) fun r1 σ2 =>
  some (r1, σ2)
def f_ST_prizeGivenAt (x1 : Int32) (σ : Sg) : Option (Int32 × Sg) :=
  bd (f_ST_setting (nI 1) σ) fun r1 σ2 =>
  bd (f_CT_isIndex (x1 - (nI 1)) r1 σ2) fun r3 σ4 =>
  if r3 = (nI 0) then
    some ((nI 0), σ4)
  else
    bd (f_ST_prizeOf x1 σ4) fun r6 σ7 =>
    some (r6, σ7)
def f_SH_prizesTogether_5 : Nat → Int32 → Int32 → Int32 → Int32 → Sg → Option (Int32 × Sg)
  | 0, _, _, _, _, _ => none
  | n9 + 1, x1, x2, x3, x4, σ =>
    if x2 ≤ x4 then
      some (x3, σ)
    else
      if (nI 20) ≤ x4 then
        some (x3, σ)
      else
        bd (f_ST_prizeGivenAt (x1 + x4) σ) fun r3 σ4 =>
        lt' (x3 + r3) fun v5 =>
        f_SH_prizesTogether_5 n9 x1 x2 v5 (x4 + (nI 1)) σ4
def f_SH_prizesTogether (x1 : Int32) (x2 : Int32) (σ : Sg) : Option (Int32 × Sg) :=
  f_SH_prizesTogether_5 FU x1 x2 (nI 0) (nI 0) σ
def f_SH_fill_88 : Nat → Int32 → Sg → Option (Int32 × Sg)
  | 0, _, _ => none
  | n9 + 1, x4, σ =>
    if (nI 20) ≤ x4 then
      some (0, σ)
    else
      bd (f_GR_headOf x4 σ) fun r2 σ3 =>
      if r2 = (-5) then
        f_SH_fill_88 n9 (x4 + (nI 1)) σ3
      else
        bd (f_GR_membersBelow r2 x4 σ3) fun r5 σ6 =>
        bd (f_SH_ofGroup r2 σ6) fun r7 σ8 =>
        bd (f_GR_sizeOf r2 σ8) fun r9 σ10 =>
        bd (f_CT_portion r7 r9 r5 σ10) fun r11 σ12 =>
        gd (inb x4 20) <|
        lt' (up σ12 107 x4.toNatClampNeg r11) fun σ14 =>
        f_SH_fill_88 n9 (x4 + (nI 1)) σ14
def f_SH_fill_19 : Nat → Int32 → Sg → Option (Int32 × Sg)
  | 0, _, _ => none
  | n9 + 1, x4, σ =>
    if (nI 20) ≤ x4 then
      f_SH_fill_88 FU (nI 0) σ
    else
      bd (f_GR_isHead x4 σ) fun r2 σ3 =>
      if r2 = (nI 0) then
        f_SH_fill_19 n9 (x4 + (nI 1)) σ3
      else
        bd (f_OR_placeOf x4 σ3) fun r5 σ6 =>
        bd (f_OR_tiedWith x4 σ6) fun r7 σ8 =>
        bd (f_SH_prizesTogether r5 r7 σ8) fun r9 σ10 =>
        bd (f_OR_tiedWith x4 σ10) fun r11 σ12 =>
        bd (f_OR_tiedBelow x4 x4 σ12) fun r13 σ14 =>
        bd (f_CT_portion r9 r11 r13 σ14) fun r15 σ16 =>
        gd (inb x4 20) <|
        lt' (up σ16 106 x4.toNatClampNeg r15) fun σ18 =>
        f_SH_fill_19 n9 (x4 + (nI 1)) σ18
def f_SH_fill (σ : Sg) : Option (Int32 × Sg) :=
  bd (f_AR_fill 106 20 (nI 0) σ) fun r1 σ2 =>
  bd (f_AR_fill 107 20 (nI 0) σ2) fun r3 σ4 =>
  f_SH_fill_19 FU (nI 0) σ4
def f_CT_tally (σ : Sg) : Option (Int32 × Sg) :=
  bd (f_GR_find σ) fun r1 σ2 =>
  bd (f_CO_fill σ2) fun r3 σ4 =>
  bd (f_RA_fill σ4) fun r5 σ6 =>
  bd (f_RO_play σ6) fun r7 σ8 =>
  bd (f_CT_fillKeys σ8) fun r9 σ10 =>
  bd (f_OR_fill σ10) fun r11 σ12 =>
  bd (f_SH_fill σ12) fun r13 σ14 =>
  some (0, σ14)
def f_SH_ofCaption (x1 : Int32) (σ : Sg) : Option (Int32 × Sg) :=
  bd (f_CT_at 107 20 x1 σ) fun r1 σ2 =>
  some (r1, σ2)
def f_ST_authorOf (x1 : Int32) (σ : Sg) : Option (Int32 × Sg) :=
  bd (f_CT_at 2 20 x1 σ) fun r1 σ2 =>
  some (r1, σ2)
def f_ST_ballotsWith_4 : Nat → Int32 → Int32 → Int32 → Sg → Option (Int32 × Sg)
  | 0, _, _, _, _ => none
  | n9 + 1, x1, x2, x3, σ =>
    if (nI 12) ≤ x3 then
      some (x2, σ)
    else
      bd (f_ST_wish x3 (nI 0) σ) fun r2 σ3 =>
      if r2 = x1 then
        f_ST_ballotsWith_4 n9 x1 (x2 + (nI 1)) (x3 + (nI 1)) σ3
      else
        bd (f_ST_wish x3 (nI 1) σ3) fun r5 σ6 =>
        if r5 = x1 then
          f_ST_ballotsWith_4 n9 x1 (x2 + (nI 1)) (x3 + (nI 1)) σ6
        else
          bd (f_ST_wish x3 (nI 2) σ6) fun r8 σ9 =>
          if r8 = x1 then
            f_ST_ballotsWith_4 n9 x1 (x2 + (nI 1)) (x3 + (nI 1)) σ9
          else
            f_ST_ballotsWith_4 n9 x1 x2 (x3 + (nI 1)) σ9
def f_ST_ballotsWith (x1 : Int32) (σ : Sg) : Option (Int32 × Sg) :=
  f_ST_ballotsWith_4 FU x1 (nI 0) (nI 0) σ
def f_ST_lengthOf (x1 : Int32) (σ : Sg) : Option (Int32 × Sg) :=
  bd (f_CT_at 4 20 x1 σ) fun r1 σ2 =>
  some (r1, σ2)
def f_ST_linksInContest_4 : Nat → Int32 → Int32 → Int32 → Sg → Option (Int32 × Sg)
  | 0, _, _, _, _ => none
  | n9 + 1, x1, x2, x3, σ =>
    if (nI 20) ≤ x3 then
      some (x2, σ)
    else
      bd (f_ST_isIn x3 σ) fun r2 σ3 =>
      if r2 = (nI 0) then
        f_ST_linksInContest_4 n9 x1 x2 (x3 + (nI 1)) σ3
      else
        bd (f_ST_areLinked x1 x3 σ3) fun r5 σ6 =>
        if r5 = (nI 0) then
          f_ST_linksInContest_4 n9 x1 x2 (x3 + (nI 1)) σ6
        else
          f_ST_linksInContest_4 n9 x1 (x2 + (nI 1)) (x3 + (nI 1)) σ6
def f_ST_linksInContest (x1 : Int32) (σ : Sg) : Option (Int32 × Sg) :=
  f_ST_linksInContest_4 FU x1 (nI 0) (nI 0) σ
def f_CT_caption (x1 : Int32) (x2 : Int32) (σ : Sg) : Option (Int32 × Sg) :=
  bd (f_ST_isIn x1 σ) fun r1 σ2 =>
  if r1 = (nI 0) then
    some ((-1), σ2)
  else
    if x2 = (nI 0) then
      bd (f_ST_authorOf x1 σ2) fun r5 σ6 =>
      some (r5, σ6)
    else
    if x2 = (nI 1) then
      bd (f_GR_find σ2) fun r8 σ9 =>
      bd (f_GR_headOf x1 σ9) fun r10 σ11 =>
      some (r10, σ11)
    else
    if x2 = (nI 2) then
      bd (f_ST_lengthOf x1 σ2) fun r13 σ14 =>
      some (r13, σ14)
    else
    if x2 = (nI 3) then
      bd (f_ST_coreLengthOf x1 σ2) fun r16 σ17 =>
      some (r16, σ17)
    else
    if x2 = (nI 4) then
      bd (f_ST_linksInContest x1 σ2) fun r19 σ20 =>
      some (r19, σ20)
    else
    if x2 = (nI 5) then
      bd (f_CT_tally σ2) fun r22 σ23 =>
      bd (f_SH_ofCaption x1 σ23) fun r24 σ25 =>
      some (r24, σ25)
    else
    if x2 = (nI 6) then
      bd (f_ST_ballotsWith x1 σ2) fun r27 σ28 =>
      some (r27, σ28)
    else
      some ((-2), σ2)
def f_ST_textLetter (x1 : Int32) (x2 : Int32) (σ : Sg) : Option (Int32 × Sg) :=
  bd (f_ST_lengthOf x1 σ) fun r1 σ2 =>
  bd (f_CT_isIndex x2 r1 σ2) fun r3 σ4 =>
  if r3 = (nI 0) then
    some ((-5), σ4)
  else
    bd (f_CT_at 3 1200 ((x1 * (nI 60)) + x2) σ4) fun r6 σ7 =>
    some (r6, σ7)
def f_CT_letter (x1 : Int32) (x2 : Int32) (σ : Sg) : Option (Int32 × Sg) :=
  bd (f_ST_isIn x1 σ) fun r1 σ2 =>
  if r1 = (nI 0) then
    some ((-1), σ2)
  else
    if (nI 0) ≤ x2 then
      bd (f_ST_textLetter x1 x2 σ2) fun r5 σ6 =>
      some (r5, σ6)
    else
      some ((-2), σ2)
def f_CT_group (x1 : Int32) (x2 : Int32) (σ : Sg) : Option (Int32 × Sg) :=
  bd (f_ST_isIn x1 σ) fun r1 σ2 =>
  if r1 = (nI 0) then
    some ((-1), σ2)
  else
    bd (f_CT_tally σ2) fun r4 σ5 =>
    bd (f_GR_headOf x1 σ5) fun r6 σ7 =>
    if x2 = (nI 0) then
      bd (f_GR_sizeOf r6 σ7) fun r9 σ10 =>
      some (r9, σ10)
    else
    if x2 = (nI 1) then
      bd (f_CO_pointsOf r6 σ7) fun r12 σ13 =>
      some (r12, σ13)
    else
    if x2 = (nI 2) then
      bd (f_CO_firstsOf r6 σ7) fun r15 σ16 =>
      some (r15, σ16)
    else
    if x2 = (nI 3) then
      bd (f_RA_sumOf r6 σ7) fun r18 σ19 =>
      some (r18, σ19)
    else
    if x2 = (nI 4) then
      bd (f_CT_scoreOf r6 σ7) fun r21 σ22 =>
      some (((nI 1000) + r21), σ22)
    else
    if x2 = (nI 5) then
      bd (f_OR_placeOf r6 σ7) fun r24 σ25 =>
      some (r24, σ25)
    else
    if x2 = (nI 6) then
      bd (f_SH_ofGroup r6 σ7) fun r27 σ28 =>
      some (r27, σ28)
    else
    if x2 = (nI 7) then
      bd (f_RO_roundOf r6 σ7) fun r30 σ31 =>
      some (r30, σ31)
    else
      some ((-2), σ7)
def f_CT_judged (x1 : Int32) (x2 : Int32) (x3 : Int32) (σ : Sg) : Option (Int32 × Sg) :=
  bd (f_CT_isIndex x1 (nI 3) σ) fun r1 σ2 =>
  if r1 = (nI 0) then
    some ((-1), σ2)
  else
    bd (f_ST_isIn x2 σ2) fun r4 σ5 =>
    if r4 = (nI 0) then
      some ((-1), σ5)
    else
      bd (f_GR_find σ5) fun r7 σ8 =>
      bd (f_RA_fill σ8) fun r9 σ10 =>
      bd (f_GR_headOf x2 σ10) fun r11 σ12 =>
      if x3 = (nI 0) then
        bd (f_ST_pointsBy x1 x2 σ12) fun r14 σ15 =>
        some (r14, σ15)
      else
      if x3 = (nI 1) then
        bd (f_RA_pointsBy x1 r11 σ12) fun r17 σ18 =>
        some (r17, σ18)
      else
      if x3 = (nI 2) then
        bd (f_RA_rankBy x1 r11 σ12) fun r20 σ21 =>
        some (r20, σ21)
      else
        some ((-2), σ12)
def f_CT_ballot (x1 : Int32) (x2 : Int32) (x3 : Int32) (σ : Sg) : Option (Int32 × Sg) :=
  bd (f_CT_isIndex x1 (nI 12) σ) fun r1 σ2 =>
  if r1 = (nI 0) then
    some ((-1), σ2)
  else
    bd (f_CT_isIndex x2 (nI 3) σ2) fun r4 σ5 =>
    if r4 = (nI 0) then
      some ((-2), σ5)
    else
      if x3 = (nI 0) then
        bd (f_ST_wish x1 x2 σ5) fun r14 σ15 =>
        some (r14, σ15)
      else
        bd (f_GR_find σ5) fun r8 σ9 =>
        bd (f_CO_fill σ9) fun r10 σ11 =>
        bd (f_CO_wish x1 x2 σ11) fun r12 σ13 =>
        some (r12, σ13)
def f_OR_headAt_2 : Nat → Int32 → Int32 → Sg → Option (Int32 × Sg)
  | 0, _, _, _ => none
  | n9 + 1, x1, x2, σ =>
    if (nI 20) ≤ x2 then
      some ((-5), σ)
    else
      gd (inb x2 20) <|
      if (σ 104 x2.toNatClampNeg) = x1 then
        some (x2, σ)
      else
        f_OR_headAt_2 n9 x1 (x2 + (nI 1)) σ
def f_OR_headAt (x1 : Int32) (σ : Sg) : Option (Int32 × Sg) :=
  f_OR_headAt_2 FU x1 (nI 0) σ
def f_CT_ranked (x1 : Int32) (σ : Sg) : Option (Int32 × Sg) :=
  if (nI 0) ≤ x1 then
    bd (f_CT_tally σ) fun r2 σ3 =>
    bd (f_OR_headAt x1 σ3) fun r4 σ5 =>
    some (r4, σ5)
  else
    some ((-2), σ)
def f_RO_ballotsForNone (x1 : Int32) (σ : Sg) : Option (Int32 × Sg) :=
  bd (f_CT_at 99 20 x1 σ) fun r1 σ2 =>
  some (r1, σ2)
def f_RO_ballotsOfHeadOut (x1 : Int32) (σ : Sg) : Option (Int32 × Sg) :=
  bd (f_CT_at 98 20 x1 σ) fun r1 σ2 =>
  some (r1, σ2)
def f_RO_headOut (x1 : Int32) (σ : Sg) : Option (Int32 × Sg) :=
  bd (f_CT_at 97 20 x1 σ) fun r1 σ2 =>
  some (r1, σ2)
def f_RO_number (σ : Sg) : Option (Int32 × Sg) :=
  some ((σ 93 6), σ)
def f_CT_round (x1 : Int32) (x2 : Int32) (σ : Sg) : Option (Int32 × Sg) :=
  if x1 < (nI 0) then
    some ((-2), σ)
  else
    bd (f_CT_isIndex x2 (nI 3) σ) fun r2 σ3 =>
    if r2 = (nI 0) then
      some ((-2), σ3)
    else
      bd (f_CT_tally σ3) fun r5 σ6 =>
      bd (f_RO_number σ6) fun r7 σ8 =>
      if x1 < r7 then
        if x2 = (nI 0) then
          bd (f_RO_headOut x1 σ8) fun r11 σ12 =>
          some (r11, σ12)
        else
        if x2 = (nI 1) then
          bd (f_RO_ballotsOfHeadOut x1 σ8) fun r14 σ15 =>
          some (r14, σ15)
        else
          bd (f_RO_ballotsForNone x1 σ8) fun r16 σ17 =>
          some (r16, σ17)
      else
        some ((-5), σ8)
def f_DI_fillLine_72 (K42 : Int32 → Int32 → Int32 → Int32 → Int32 → Sg → Option (Int32 × Sg)) (x3 : Int32) (x5 : Int32) (x6 : Int32) (x8 : Int32) (t0 : Int32) (σ : Sg) : Option (Int32 × Sg) :=
  gd (inb x8 61) <|
  lt' (σ 109 x8.toNatClampNeg) fun v2 =>
  gd (inb (x8 - (nI 1)) 61) <|
  gd (inb x8 61) <|
  lt' ((nI 1) + (imin (σ 109 (x8 - (nI 1)).toNatClampNeg) (σ 109 x8.toNatClampNeg))) fun v5 =>
  gd (inb x8 61) <|
  lt' (up σ 109 x8.toNatClampNeg (imin t0 v5)) fun σ7 =>
  K42 x3 x5 x6 v2 (x8 + (nI 1)) σ7
def f_DI_fillLine_42 : Nat → Int32 → Int32 → Int32 → Int32 → Int32 → Sg → Option (Int32 × Sg)
  | 0, _, _, _, _, _, _ => none
  | n9 + 1, x3, x5, x6, x7, x8, σ =>
    if x5 < x8 then
      some (0, σ)
    else
      bd (f_ST_coreLetter x3 (x8 - (nI 1)) σ) fun r2 σ3 =>
      if x6 = r2 then
        f_DI_fillLine_72 (fun x3 x5 x6 x7 x8 σ => f_DI_fillLine_42 n9 x3 x5 x6 x7 x8 σ) x3 x5 x6 x8 x7 σ3
      else
        f_DI_fillLine_72 (fun x3 x5 x6 x7 x8 σ => f_DI_fillLine_42 n9 x3 x5 x6 x7 x8 σ) x3 x5 x6 x8 (x7 + (nI 1)) σ3
def f_DI_fillLine (x2 : Int32) (x3 : Int32) (x4 : Int32) (σ : Sg) : Option (Int32 × Sg) :=
  bd (f_ST_coreLengthOf x3 σ) fun r1 σ2 =>
  lt' (imin r1 (nI 60)) fun v3 =>
  bd (f_ST_coreLetter x2 (x4 - (nI 1)) σ2) fun r4 σ5 =>
  gd (inb (nI 0) 61) <|
  lt' (σ5 109 (nI 0).toNatClampNeg) fun v7 =>
  gd (inb (nI 0) 61) <|
  lt' (up σ5 109 (nI 0).toNatClampNeg x4) fun σ9 =>
  f_DI_fillLine_42 FU x3 v3 r4 v7 (nI 1) σ9
def f_DI_between_52 : Nat → Int32 → Int32 → Int32 → Int32 → Int32 → Sg → Option (Int32 × Sg)
  | 0, _, _, _, _, _, _ => none
  | n9 + 1, x2, x3, x4, x5, x6, σ =>
    if x4 < x6 then
      bd (f_CT_at 109 61 x5 σ) fun r2 σ3 =>
      some (r2, σ3)
    else
      bd (f_DI_fillLine x2 x3 x6 σ) fun r4 σ5 =>
      f_DI_between_52 n9 x2 x3 x4 x5 (x6 + (nI 1)) σ5
def f_DI_between_27 : Nat → Int32 → Int32 → Int32 → Int32 → Int32 → Sg → Option (Int32 × Sg)
  | 0, _, _, _, _, _, _ => none
  | n9 + 1, x2, x3, x4, x5, x6, σ =>
    if x5 < x6 then
      f_DI_between_52 FU x2 x3 x4 x5 (nI 1) σ
    else
      gd (inb x6 61) <|
      lt' (up σ 109 x6.toNatClampNeg x6) fun σ3 =>
      f_DI_between_27 n9 x2 x3 x4 x5 (x6 + (nI 1)) σ3
def f_DI_between (x2 : Int32) (x3 : Int32) (σ : Sg) : Option (Int32 × Sg) :=
  bd (f_ST_coreLengthOf x2 σ) fun r1 σ2 =>
  lt' (imin r1 (nI 60)) fun v3 =>
  bd (f_ST_coreLengthOf x3 σ2) fun r4 σ5 =>
  lt' (imin r4 (nI 60)) fun v6 =>
  f_DI_between_27 FU x2 x3 v3 v6 (nI 0) σ5
def f_CT_distance (x1 : Int32) (x2 : Int32) (σ : Sg) : Option (Int32 × Sg) :=
  bd (f_ST_isIn x1 σ) fun r1 σ2 =>
  if r1 = (nI 0) then
    some ((-1), σ2)
  else
    bd (f_ST_isIn x2 σ2) fun r4 σ5 =>
    if r4 = (nI 0) then
      some ((-1), σ5)
    else
      bd (f_DI_between x1 x2 σ5) fun r7 σ8 =>
      some (r7, σ8)
def f_DI_areApart (x1 : Int32) (x2 : Int32) (σ : Sg) : Option (Int32 × Sg) :=
  bd (f_GR_headOf x1 σ) fun r1 σ2 =>
  bd (f_GR_headOf x2 σ2) fun r3 σ4 =>
  if r1 = (-5) then
    some ((nI 0), σ4)
  else
    if r3 = (-5) then
      some ((nI 0), σ4)
    else
      if r1 = r3 then
        some ((nI 0), σ4)
      else
        some ((nI 1), σ4)
def f_DI_mayBeNear (x1 : Int32) (x2 : Int32) (σ : Sg) : Option (Int32 × Sg) :=
  bd (f_ST_coreLengthOf x1 σ) fun r1 σ2 =>
  bd (f_ST_coreLengthOf x2 σ2) fun r3 σ4 =>
  if (nI 3) < (iabs (r1 - r3)) then
    some ((nI 0), σ4)
  else
    some ((nI 1), σ4)
def f_DI_fill_22 (K11 : Int32 → Sg → Option (Int32 × Sg)) : Nat → Int32 → Int32 → Sg → Option (Int32 × Sg)
  | 0, _, _, _ => none
  | n9 + 1, x3, x4, σ =>
    if (nI 20) ≤ x4 then
      K11 (x3 + (nI 1)) σ
    else
      bd (f_DI_areApart x3 x4 σ) fun r2 σ3 =>
      if r2 = (nI 0) then
        f_DI_fill_22 K11 n9 x3 (x4 + (nI 1)) σ3
      else
        bd (f_DI_mayBeNear x3 x4 σ3) fun r5 σ6 =>
        if r5 = (nI 0) then
          f_DI_fill_22 K11 n9 x3 (x4 + (nI 1)) σ6
        else
          bd (f_DI_between x3 x4 σ6) fun r8 σ9 =>
          gd (inb ((x3 * (nI 20)) + x4) 400) <|
          lt' (up σ9 110 ((x3 * (nI 20)) + x4).toNatClampNeg r8) fun σ11 =>
          f_DI_fill_22 K11 n9 x3 (x4 + (nI 1)) σ11
def f_DI_fill_11 : Nat → Int32 → Sg → Option (Int32 × Sg)
  | 0, _, _ => none
  | n9 + 1, x3, σ =>
    if (nI 20) ≤ x3 then
      some (0, σ)
    else
      lt' (x3 + (nI 1)) fun v2 =>
      f_DI_fill_22 (fun x3 σ => f_DI_fill_11 n9 x3 σ) FU x3 v2 σ
def f_DI_fill (σ : Sg) : Option (Int32 × Sg) :=
  bd (f_AR_fill 110 400 (-5) σ) fun r1 σ2 =>
  f_DI_fill_11 FU (nI 0) σ2
def f_DI_ofPair (x1 : Int32) (σ : Sg) : Option (Int32 × Sg) :=
  bd (f_CT_at 110 400 x1 σ) fun r1 σ2 =>
  some (r1, σ2)
def f_DI_pairAt_12 (K4 : Int32 → Int32 → Sg → Option (Int32 × Sg)) : Nat → Int32 → Int32 → Int32 → Sg → Option (Int32 × Sg)
  | 0, _, _, _, _ => none
  | n9 + 1, x2, x3, x4, σ =>
    if (nI 400) ≤ x4 then
      K4 x2 (x3 + (nI 1)) σ
    else
      gd (inb x4 400) <|
      if (σ 110 x4.toNatClampNeg) = x3 then
        if x2 = (nI 0) then
          some (x4, σ)
        else
          f_DI_pairAt_12 K4 n9 (x2 + (-1)) x3 (x4 + (nI 1)) σ
      else
        f_DI_pairAt_12 K4 n9 x2 x3 (x4 + (nI 1)) σ
def f_DI_pairAt_4 : Nat → Int32 → Int32 → Sg → Option (Int32 × Sg)
  | 0, _, _, _ => none
  | n9 + 1, x2, x3, σ =>
    if (nI 3) < x3 then
      some ((-5), σ)
    else
      f_DI_pairAt_12 (fun x2 x3 σ => f_DI_pairAt_4 n9 x2 x3 σ) FU x2 x3 (nI 0) σ
def f_DI_pairAt (x1 : Int32) (σ : Sg) : Option (Int32 × Sg) :=
  f_DI_pairAt_4 FU x1 (nI 0) σ
def f_CT_near (x1 : Int32) (x2 : Int32) (σ : Sg) : Option (Int32 × Sg) :=
  if x1 < (nI 0) then
    some ((-2), σ)
  else
    bd (f_CT_isIndex x2 (nI 3) σ) fun r2 σ3 =>
    if r2 = (nI 0) then
      some ((-2), σ3)
    else
      bd (f_GR_find σ3) fun r5 σ6 =>
      bd (f_DI_fill σ6) fun r7 σ8 =>
      bd (f_DI_pairAt x1 σ8) fun r9 σ10 =>
      if r9 = (-5) then
        some ((-5), σ10)
      else
        if x2 = (nI 0) then
          gd (nz (nI 20)) <|
          some ((r9 / (nI 20)), σ10)
        else
        if x2 = (nI 1) then
          gd (nz (nI 20)) <|
          some ((irm r9 (nI 20)), σ10)
        else
          bd (f_DI_ofPair r9 σ10) fun r16 σ17 =>
          some (r16, σ17)
def f_CT_isBy (x1 : Int32) (x2 : Int32) (σ : Sg) : Option (Int32 × Sg) :=
  bd (f_ST_isIn x2 σ) fun r1 σ2 =>
  if r1 = (nI 0) then
    some ((nI 0), σ2)
  else
    bd (f_ST_authorOf x2 σ2) fun r4 σ5 =>
    if r4 = x1 then
      some ((nI 1), σ5)
    else
      some ((nI 0), σ5)
def f_CT_amountFor_4 : Nat → Int32 → Int32 → Int32 → Sg → Option (Int32 × Sg)
  | 0, _, _, _, _ => none
  | n9 + 1, x1, x2, x3, σ =>
    if (nI 20) ≤ x3 then
      some (x2, σ)
    else
      bd (f_CT_isBy x1 x3 σ) fun r2 σ3 =>
      if r2 = (nI 0) then
        f_CT_amountFor_4 n9 x1 x2 (x3 + (nI 1)) σ3
      else
        bd (f_SH_ofCaption x3 σ3) fun r5 σ6 =>
        lt' (x2 + r5) fun v7 =>
        f_CT_amountFor_4 n9 x1 v7 (x3 + (nI 1)) σ6
def f_CT_amountFor (x1 : Int32) (σ : Sg) : Option (Int32 × Sg) :=
  f_CT_amountFor_4 FU x1 (nI 0) (nI 0) σ
def f_CT_bestPlaceOf_5 : Nat → Int32 → Int32 → Int32 → Sg → Option (Int32 × Sg)
  | 0, _, _, _, _ => none
  | n9 + 1, x1, x2, x3, σ =>
    if (nI 20) ≤ x3 then
      some (x2, σ)
    else
      bd (f_CT_isBy x1 x3 σ) fun r2 σ3 =>
      if r2 = (nI 0) then
        f_CT_bestPlaceOf_5 n9 x1 x2 (x3 + (nI 1)) σ3
      else
        bd (f_GR_headOf x3 σ3) fun r5 σ6 =>
        bd (f_OR_placeOf r5 σ6) fun r7 σ8 =>
        if x2 = (-5) then
          f_CT_bestPlaceOf_5 n9 x1 r7 (x3 + (nI 1)) σ8
        else
          lt' (imin x2 r7) fun v10 =>
          f_CT_bestPlaceOf_5 n9 x1 v10 (x3 + (nI 1)) σ8
def f_CT_bestPlaceOf (x1 : Int32) (σ : Sg) : Option (Int32 × Sg) :=
  f_CT_bestPlaceOf_5 FU x1 (-5) (nI 0) σ
def f_CT_captionsBy_4 : Nat → Int32 → Int32 → Int32 → Sg → Option (Int32 × Sg)
  | 0, _, _, _, _ => none
  | n9 + 1, x1, x2, x3, σ =>
    if (nI 20) ≤ x3 then
      some (x2, σ)
    else
      bd (f_CT_isBy x1 x3 σ) fun r2 σ3 =>
      if r2 = (nI 0) then
        f_CT_captionsBy_4 n9 x1 x2 (x3 + (nI 1)) σ3
      else
        f_CT_captionsBy_4 n9 x1 (x2 + (nI 1)) (x3 + (nI 1)) σ3
def f_CT_captionsBy (x1 : Int32) (σ : Sg) : Option (Int32 × Sg) :=
  f_CT_captionsBy_4 FU x1 (nI 0) (nI 0) σ
def f_CT_author (x1 : Int32) (x2 : Int32) (σ : Sg) : Option (Int32 × Sg) :=
  bd (f_CT_isIndex x1 (nI 10) σ) fun r1 σ2 =>
  if r1 = (nI 0) then
    some ((-1), σ2)
  else
    if x2 = (nI 0) then
      bd (f_CT_captionsBy x1 σ2) fun r5 σ6 =>
      some (r5, σ6)
    else
    if x2 = (nI 1) then
      bd (f_CT_tally σ2) fun r8 σ9 =>
      bd (f_CT_amountFor x1 σ9) fun r10 σ11 =>
      some (r10, σ11)
    else
    if x2 = (nI 2) then
      bd (f_CT_tally σ2) fun r13 σ14 =>
      bd (f_CT_bestPlaceOf x1 σ14) fun r15 σ16 =>
      some (r15, σ16)
    else
      some ((-2), σ2)
def f_CO_ballotsThatCount_4 : Nat → Int32 → Int32 → Sg → Option (Int32 × Sg)
  | 0, _, _, _ => none
  | n9 + 1, x1, x2, σ =>
    if (nI 12) ≤ x2 then
      some (x1, σ)
    else
      bd (f_CO_wish x2 (nI 0) σ) fun r2 σ3 =>
      if r2 = (-5) then
        f_CO_ballotsThatCount_4 n9 x1 (x2 + (nI 1)) σ3
      else
        f_CO_ballotsThatCount_4 n9 (x1 + (nI 1)) (x2 + (nI 1)) σ3
def f_CO_ballotsThatCount (σ : Sg) : Option (Int32 × Sg) :=
  f_CO_ballotsThatCount_4 FU (nI 0) (nI 0) σ
def f_CO_pointsInAll_4 : Nat → Int32 → Int32 → Sg → Option (Int32 × Sg)
  | 0, _, _, _ => none
  | n9 + 1, x1, x2, σ =>
    if (nI 20) ≤ x2 then
      some (x1, σ)
    else
      gd (inb x2 20) <|
      lt' (x1 + (σ 87 x2.toNatClampNeg)) fun v3 =>
      f_CO_pointsInAll_4 n9 v3 (x2 + (nI 1)) σ
def f_CO_pointsInAll (σ : Sg) : Option (Int32 × Sg) :=
  f_CO_pointsInAll_4 FU (nI 0) (nI 0) σ
def f_OR_tiedGroups_4 : Nat → Int32 → Int32 → Sg → Option (Int32 × Sg)
  | 0, _, _, _ => none
  | n9 + 1, x1, x2, σ =>
    if (nI 20) ≤ x2 then
      some (x1, σ)
    else
      gd (inb x2 20) <|
      if (σ 101 x2.toNatClampNeg) = (nI 0) then
        f_OR_tiedGroups_4 n9 x1 (x2 + (nI 1)) σ
      else
        bd (f_OR_tiedWith x2 σ) fun r4 σ5 =>
        if r4 ≤ (nI 1) then
          f_OR_tiedGroups_4 n9 x1 (x2 + (nI 1)) σ5
        else
          f_OR_tiedGroups_4 n9 (x1 + (nI 1)) (x2 + (nI 1)) σ5
def f_OR_tiedGroups (σ : Sg) : Option (Int32 × Sg) :=
  f_OR_tiedGroups_4 FU (nI 0) (nI 0) σ
def f_SH_inAll_4 : Nat → Int32 → Int32 → Sg → Option (Int32 × Sg)
  | 0, _, _, _ => none
  | n9 + 1, x1, x2, σ =>
    if (nI 20) ≤ x2 then
      some (x1, σ)
    else
      gd (inb x2 20) <|
      lt' (x1 + (σ 107 x2.toNatClampNeg)) fun v3 =>
      f_SH_inAll_4 n9 v3 (x2 + (nI 1)) σ
def f_SH_inAll (σ : Sg) : Option (Int32 × Sg) :=
  f_SH_inAll_4 FU (nI 0) (nI 0) σ
def f_ST_linksInAll_14 (K4 : Int32 → Int32 → Sg → Option (Int32 × Sg)) : Nat → Int32 → Int32 → Int32 → Sg → Option (Int32 × Sg)
  | 0, _, _, _, _ => none
  | n9 + 1, x1, x2, x3, σ =>
    if (nI 20) ≤ x3 then
      K4 x1 (x2 + (nI 1)) σ
    else
      bd (f_ST_areLinked x2 x3 σ) fun r2 σ3 =>
      if r2 = (nI 0) then
        f_ST_linksInAll_14 K4 n9 x1 x2 (x3 + (nI 1)) σ3
      else
        f_ST_linksInAll_14 K4 n9 (x1 + (nI 1)) x2 (x3 + (nI 1)) σ3
def f_ST_linksInAll_4 : Nat → Int32 → Int32 → Sg → Option (Int32 × Sg)
  | 0, _, _, _ => none
  | n9 + 1, x1, x2, σ =>
    if (nI 20) ≤ x2 then
      some (x1, σ)
    else
      lt' (x2 + (nI 1)) fun v2 =>
      f_ST_linksInAll_14 (fun x1 x2 σ => f_ST_linksInAll_4 n9 x1 x2 σ) FU x1 x2 v2 σ
def f_ST_linksInAll (σ : Sg) : Option (Int32 × Sg) :=
  f_ST_linksInAll_4 FU (nI 0) (nI 0) σ
def f_CT_count_48 (x1 : Int32) (σ : Sg) : Option (Int32 × Sg) :=
  bd (f_CT_tally σ) fun r1 σ2 =>
  if x1 = (nI 0) then
    bd (f_ST_captionsIn σ2) fun r4 σ5 =>
    some (r4, σ5)
  else
  if x1 = (nI 1) then
    bd (f_ST_captionsSoFar σ2) fun r7 σ8 =>
    some (r7, σ8)
  else
  if x1 = (nI 2) then
    bd (f_GR_number σ2) fun r10 σ11 =>
    some (r10, σ11)
  else
  if x1 = (nI 3) then
    bd (f_ST_linksInAll σ2) fun r13 σ14 =>
    some (r13, σ14)
  else
  if x1 = (nI 4) then
    bd (f_CO_ballotsThatCount σ2) fun r16 σ17 =>
    some (r16, σ17)
  else
  if x1 = (nI 5) then
    bd (f_CO_pointsInAll σ2) fun r19 σ20 =>
    some (r19, σ20)
  else
  if x1 = (nI 6) then
    bd (f_SH_inAll σ2) fun r22 σ23 =>
    some (r22, σ23)
  else
  if x1 = (nI 7) then
    some ((-2), σ2)
  else
  if x1 = (nI 8) then
    some ((-2), σ2)
  else
  if x1 = (nI 9) then
    some ((-2), σ2)
  else
  if x1 = (nI 10) then
    bd (f_OR_tiedGroups σ2) fun r28 σ29 =>
    some (r28, σ29)
  else
  if x1 = (nI 11) then
    bd (f_HI_size σ2) fun r31 σ32 =>
    some (r31, σ32)
  else
  if x1 = (nI 12) then
    bd (f_DR_length σ2) fun r34 σ35 =>
    some (r34, σ35)
  else
    some ((-2), σ2)
def f_CT_count_24 (x1 : Int32) (σ : Sg) : Option (Int32 × Sg) :=
  if x1 < (nI 21) then
    f_CT_count_48 x1 σ
  else
    if (nI 25) < x1 then
      f_CT_count_48 x1 σ
    else
      bd (f_ST_prizeOf (x1 - (nI 20)) σ) fun r3 σ4 =>
      some (r3, σ4)
def f_CT_count (x1 : Int32) (σ : Sg) : Option (Int32 × Sg) :=
  if x1 < (nI 7) then
    f_CT_count_24 x1 σ
  else
    if (nI 9) < x1 then
      f_CT_count_24 x1 σ
    else
      bd (f_ST_setting (x1 - (nI 7)) σ) fun r3 σ4 =>
      some (r3, σ4)
def f_MO_in (x0 : Int32) (x1 : Int32) (x2 : Int32) (σ : Sg) : Option (Int32 × Sg) :=
  if x0 < x1 then
    some ((nI 0), σ)
  else
    if x2 < x0 then
      some ((nI 0), σ)
    else
      some ((nI 1), σ)
def f_MO_record_51 : Nat → Int32 → Sg → Option (Int32 × Sg)
  | 0, _, _ => none
  | n9 + 1, x1, σ =>
    if (nI 1385) ≤ x1 then
      lt' (up σ 112 4 ((σ 112 4) + (nI 1))) fun σ2 =>
      some (0, σ2)
    else
      gd (inb x1 1385) <|
      gd (inb (((nI 1385) * (σ 112 4)) + x1) 5540) <|
      lt' (up σ 115 (((nI 1385) * (σ 112 4)) + x1).toNatClampNeg (σ 113 x1.toNatClampNeg)) fun σ5 =>
      f_MO_record_51 n9 (x1 + (nI 1)) σ5
def f_MO_record_10 : Nat → Int32 → Sg → Option (Int32 × Sg)
  | 0, _, _ => none
  | n9 + 1, x1, σ =>
    if (nI 4155) ≤ x1 then
      lt' (up σ 112 4 ((σ 112 4) - (nI 1))) fun σ2 =>
      f_MO_record_51 FU (nI 0) σ2
    else
      gd (inb (x1 + (nI 1385)) 5540) <|
      gd (inb x1 5540) <|
      lt' (up σ 115 x1.toNatClampNeg (σ 115 (x1 + (nI 1385)).toNatClampNeg)) fun σ5 =>
      f_MO_record_10 n9 (x1 + (nI 1)) σ5
def f_MO_record (σ : Sg) : Option (Int32 × Sg) :=
  if (σ 112 4) = (nI 4) then
    f_MO_record_10 FU (nI 0) σ
  else
    f_MO_record_51 FU (nI 0) σ
def f_MO_is (x1 : Int32) (σ : Sg) : Option (Int32 × Sg) :=
  gd (inb (nI 0) 1385) <|
  bd (f_MO_in x1 (nI 0) ((σ 113 (nI 0).toNatClampNeg) - (nI 1)) σ) fun r2 σ3 =>
  if r2 = (nI 0) then
    some ((nI 0), σ3)
  else
    gd (inb ((nI 29) + x1) 1385) <|
    if (σ3 113 ((nI 29) + x1).toNatClampNeg) = (nI 1) then
      some ((nI 1), σ3)
    else
      some ((nI 0), σ3)
def f_MO_there_4 : Nat → Int32 → Int32 → Sg → Option (Int32 × Sg)
  | 0, _, _, _ => none
  | n9 + 1, x1, x2, σ =>
    gd (inb (nI 0) 1385) <|
    if (σ 113 (nI 0).toNatClampNeg) ≤ x2 then
      some (x1, σ)
    else
      gd (inb ((nI 29) + x2) 1385) <|
      lt' (x1 + (σ 113 ((nI 29) + x2).toNatClampNeg)) fun v4 =>
      f_MO_there_4 n9 v4 (x2 + (nI 1)) σ
def f_MO_there (σ : Sg) : Option (Int32 × Sg) :=
  f_MO_there_4 FU (nI 0) (nI 0) σ
def f_MO_isLetter (x0 : Int32) (σ : Sg) : Option (Int32 × Sg) :=
  bd (f_MO_in x0 (nI 97) (nI 122) σ) fun r1 σ2 =>
  if r1 = (nI 0) then
    bd (f_MO_in x0 (nI 65) (nI 90) σ2) fun r4 σ5 =>
    if r4 = (nI 0) then
      some ((nI 0), σ5)
    else
      some ((nI 1), σ5)
  else
    some ((nI 1), σ2)
def f_MO_small (x0 : Int32) (σ : Sg) : Option (Int32 × Sg) :=
  bd (f_MO_in x0 (nI 65) (nI 90) σ) fun r1 σ2 =>
  if r1 = (nI 0) then
    some (x0, σ2)
  else
    some (((x0 - (nI 65)) + (nI 97)), σ2)
def f_MO_isSign (x0 : Int32) (σ : Sg) : Option (Int32 × Sg) :=
  bd (f_MO_isLetter x0 σ) fun r1 σ2 =>
  if r1 = (nI 0) then
    if x0 = (nI 32) then
      some ((nI 1), σ2)
    else
      if x0 = (nI 46) then
        some ((nI 1), σ2)
      else
        if x0 = (nI 44) then
          some ((nI 1), σ2)
        else
          if x0 = (nI 33) then
            some ((nI 1), σ2)
          else
            if x0 = (nI 63) then
              some ((nI 1), σ2)
            else
              if x0 = (nI 39) then
                some ((nI 1), σ2)
              else
                if x0 = (nI 45) then
                  some ((nI 1), σ2)
                else
                  some ((nI 0), σ2)
  else
    some ((nI 1), σ2)
def f_MO_sign (x1 : Int32) (x2 : Int32) (σ : Sg) : Option (Int32 × Sg) :=
  gd (inb (((nI 89) + ((nI 60) * x1)) + x2) 1385) <|
  some ((σ 113 (((nI 89) + ((nI 60) * x1)) + x2).toNatClampNeg), σ)
def f_MO_takesCores_16 (K2 : Int32 → Sg → Option (Int32 × Sg)) : Nat → Int32 → Int32 → Int32 → Sg → Option (Int32 × Sg)
  | 0, _, _, _, _ => none
  | n9 + 1, x1, x2, x3, σ =>
    gd (inb ((nI 69) + x1) 1385) <|
    if (σ 113 ((nI 69) + x1).toNatClampNeg) ≤ x3 then
      gd (inb x1 20) <|
      lt' (up σ 130 x1.toNatClampNeg x2) fun σ4 =>
      K2 (x1 + (nI 1)) σ4
    else
      bd (f_MO_sign x1 x3 σ) fun r5 σ6 =>
      bd (f_MO_isLetter r5 σ6) fun r7 σ8 =>
      if r7 = (nI 0) then
        f_MO_takesCores_16 K2 n9 x1 x2 (x3 + (nI 1)) σ8
      else
        bd (f_MO_sign x1 x3 σ8) fun r10 σ11 =>
        bd (f_MO_small r10 σ11) fun r12 σ13 =>
        gd (inb (((nI 60) * x1) + x2) 1200) <|
        lt' (up σ13 129 (((nI 60) * x1) + x2).toNatClampNeg r12) fun σ15 =>
        f_MO_takesCores_16 K2 n9 x1 (x2 + (nI 1)) (x3 + (nI 1)) σ15
def f_MO_takesCores_2 : Nat → Int32 → Sg → Option (Int32 × Sg)
  | 0, _, _ => none
  | n9 + 1, x1, σ =>
    gd (inb (nI 0) 1385) <|
    if (σ 113 (nI 0).toNatClampNeg) ≤ x1 then
      some (0, σ)
    else
      f_MO_takesCores_16 (fun x1 σ => f_MO_takesCores_2 n9 x1 σ) FU x1 (nI 0) (nI 0) σ
def f_MO_takesCores (σ : Sg) : Option (Int32 × Sg) :=
  f_MO_takesCores_2 FU (nI 0) σ
def f_MO_isAlike_27 : Nat → Int32 → Int32 → Int32 → Int32 → Int32 → Sg → Option (Int32 × Sg)
  | 0, _, _, _, _, _, _ => none
  | n9 + 1, x1, x2, x3, x4, x5, σ =>
    if x3 ≤ x5 then
      gd (isbit x4) <| some (x4, σ)
    else
      if x4 = (nI 0) then
        gd (isbit x4) <| some (x4, σ)
      else
        gd (inb (((nI 60) * x1) + x5) 1200) <|
        gd (inb (((nI 60) * x2) + x5) 1200) <|
        if (σ 129 (((nI 60) * x1) + x5).toNatClampNeg) = (σ 129 (((nI 60) * x2) + x5).toNatClampNeg) then
          f_MO_isAlike_27 n9 x1 x2 x3 (nI 1) (x5 + (nI 1)) σ
        else
          f_MO_isAlike_27 n9 x1 x2 x3 (nI 0) (x5 + (nI 1)) σ
def f_MO_isAlike (x1 : Int32) (x2 : Int32) (σ : Sg) : Option (Int32 × Sg) :=
  gd (inb x1 20) <|
  lt' (σ 130 x1.toNatClampNeg) fun v2 =>
  gd (inb x2 20) <|
  if v2 = (σ 130 x2.toNatClampNeg) then
    f_MO_isAlike_27 FU x1 x2 v2 (nI 1) (nI 0) σ
  else
    f_MO_isAlike_27 FU x1 x2 v2 (nI 0) (nI 0) σ
def f_MO_isLinked (x1 : Int32) (x2 : Int32) (σ : Sg) : Option (Int32 × Sg) :=
  gd (inb ((nI 49) + x1) 1385) <|
  if ((isr (σ 113 ((nI 49) + x1).toNatClampNeg) x2) &&& (nI 1)) = (nI 1) then
    some ((nI 1), σ)
  else
    some ((nI 0), σ)
def f_MO_far_197 (K43 : Int32 → Int32 → Int32 → Int32 → Int32 → Sg → Option (Int32 × Sg)) : Nat → Int32 → Int32 → Int32 → Int32 → Int32 → Int32 → Sg → Option (Int32 × Sg)
  | 0, _, _, _, _, _, _, _ => none
  | n9 + 1, x1, x2, x3, x4, x5, x7, σ =>
    if x4 < x7 then
      K43 x1 x2 x3 x4 (x5 + (nI 1)) σ
    else
      gd (inb x7 61) <|
      gd (inb x7 61) <|
      lt' (up σ 131 x7.toNatClampNeg (σ 132 x7.toNatClampNeg)) fun σ4 =>
      f_MO_far_197 K43 n9 x1 x2 x3 x4 x5 (x7 + (nI 1)) σ4
def f_MO_far_187 (K76 : Int32 → Int32 → Int32 → Int32 → Int32 → Int32 → Int32 → Sg → Option (Int32 × Sg)) (x1 : Int32) (x2 : Int32) (x3 : Int32) (x4 : Int32) (x5 : Int32) (x6 : Int32) (x7 : Int32) (t0 : Int32) (t1 : Int32) (σ : Sg) : Option (Int32 × Sg) :=
  gd (inb t1 61) <|
  lt' (up σ 132 t1.toNatClampNeg t0) fun σ2 =>
  K76 x1 x2 x3 x4 x5 x6 (x7 + (nI 1)) σ2
def f_MO_far_147 (K76 : Int32 → Int32 → Int32 → Int32 → Int32 → Int32 → Int32 → Sg → Option (Int32 × Sg)) (x1 : Int32) (x2 : Int32) (x3 : Int32) (x4 : Int32) (x5 : Int32) (x6 : Int32) (x7 : Int32) (t0 : Int32) (σ : Sg) : Option (Int32 × Sg) :=
  gd (inb (x7 - (nI 1)) 61) <|
  if t0 ≤ ((σ 132 (x7 - (nI 1)).toNatClampNeg) + (nI 1)) then
    f_MO_far_187 K76 x1 x2 x3 x4 x5 x6 x7 t0 x7 σ
  else
    gd (inb (x7 - (nI 1)) 61) <|
    f_MO_far_187 K76 x1 x2 x3 x4 x5 x6 x7 ((σ 132 (x7 - (nI 1)).toNatClampNeg) + (nI 1)) x7 σ
def f_MO_far_116 (K76 : Int32 → Int32 → Int32 → Int32 → Int32 → Int32 → Int32 → Sg → Option (Int32 × Sg)) (x1 : Int32) (x2 : Int32) (x3 : Int32) (x4 : Int32) (x5 : Int32) (x6 : Int32) (x7 : Int32) (t0 : Int32) (t1 : Int32) (σ : Sg) : Option (Int32 × Sg) :=
  lt' (t1 + t0) fun v1 =>
  gd (inb x7 61) <|
  if v1 ≤ ((σ 131 x7.toNatClampNeg) + (nI 1)) then
    f_MO_far_147 K76 x1 x2 x3 x4 x5 x6 x7 v1 σ
  else
    gd (inb x7 61) <|
    f_MO_far_147 K76 x1 x2 x3 x4 x5 x6 x7 ((σ 131 x7.toNatClampNeg) + (nI 1)) σ
def f_MO_far_76 (K43 : Int32 → Int32 → Int32 → Int32 → Int32 → Sg → Option (Int32 × Sg)) : Nat → Int32 → Int32 → Int32 → Int32 → Int32 → Int32 → Int32 → Sg → Option (Int32 × Sg)
  | 0, _, _, _, _, _, _, _, _ => none
  | n9 + 1, x1, x2, x3, x4, x5, x6, x7, σ =>
    if x4 < x7 then
      f_MO_far_197 K43 FU x1 x2 x3 x4 x5 (nI 0) σ
    else
      gd (inb (x7 - (nI 1)) 61) <|
      gd (inb ((((nI 60) * x2) + x7) - (nI 1)) 1200) <|
      if x6 = (σ 129 ((((nI 60) * x2) + x7) - (nI 1)).toNatClampNeg) then
        f_MO_far_116 (fun x1 x2 x3 x4 x5 x6 x7 σ => f_MO_far_76 K43 n9 x1 x2 x3 x4 x5 x6 x7 σ) x1 x2 x3 x4 x5 x6 x7 (nI 0) (σ 131 (x7 - (nI 1)).toNatClampNeg) σ
      else
        f_MO_far_116 (fun x1 x2 x3 x4 x5 x6 x7 σ => f_MO_far_76 K43 n9 x1 x2 x3 x4 x5 x6 x7 σ) x1 x2 x3 x4 x5 x6 x7 (nI 1) (σ 131 (x7 - (nI 1)).toNatClampNeg) σ
def f_MO_far_43 : Nat → Int32 → Int32 → Int32 → Int32 → Int32 → Sg → Option (Int32 × Sg)
  | 0, _, _, _, _, _, _ => none
  | n9 + 1, x1, x2, x3, x4, x5, σ =>
    if x3 < x5 then
      gd (inb x4 61) <|
      some ((σ 131 x4.toNatClampNeg), σ)
    else
      gd (inb ((((nI 60) * x1) + x5) - (nI 1)) 1200) <|
      lt' (σ 129 ((((nI 60) * x1) + x5) - (nI 1)).toNatClampNeg) fun v4 =>
      gd (inb (nI 0) 61) <|
      lt' (up σ 132 (nI 0).toNatClampNeg x5) fun σ6 =>
      f_MO_far_76 (fun x1 x2 x3 x4 x5 σ => f_MO_far_43 n9 x1 x2 x3 x4 x5 σ) FU x1 x2 x3 x4 x5 v4 (nI 1) σ6
def f_MO_far_18 : Nat → Int32 → Int32 → Int32 → Int32 → Int32 → Sg → Option (Int32 × Sg)
  | 0, _, _, _, _, _, _ => none
  | n9 + 1, x1, x2, x3, x4, x5, σ =>
    if x4 < x5 then
      f_MO_far_43 FU x1 x2 x3 x4 (nI 1) σ
    else
      gd (inb x5 61) <|
      lt' (up σ 131 x5.toNatClampNeg x5) fun σ3 =>
      f_MO_far_18 n9 x1 x2 x3 x4 (x5 + (nI 1)) σ3
def f_MO_far (x1 : Int32) (x2 : Int32) (σ : Sg) : Option (Int32 × Sg) :=
  gd (inb x1 20) <|
  lt' (σ 130 x1.toNatClampNeg) fun v2 =>
  gd (inb x2 20) <|
  lt' (σ 130 x2.toNatClampNeg) fun v4 =>
  f_MO_far_18 FU x1 x2 v2 v4 (nI 0) σ
def f_MO_heads_215 (K185 : Int32 → Sg → Option (Int32 × Sg)) (x2 : Int32) (t0 : Int32) (t1 : Int32) (σ : Sg) : Option (Int32 × Sg) :=
  lt' (up σ 112 23 (t1 + t0)) fun σ1 =>
  K185 (x2 + (nI 1)) σ1
def f_MO_heads_185 : Nat → Int32 → Sg → Option (Int32 × Sg)
  | 0, _, _ => none
  | n9 + 1, x2, σ =>
    gd (inb (nI 0) 1385) <|
    if (σ 113 (nI 0).toNatClampNeg) ≤ x2 then
      some (0, σ)
    else
      gd (inb x2 20) <|
      if (σ 117 x2.toNatClampNeg) = x2 then
        f_MO_heads_215 (fun x2 σ => f_MO_heads_185 n9 x2 σ) x2 (nI 1) (σ 112 23) σ
      else
        f_MO_heads_215 (fun x2 σ => f_MO_heads_185 n9 x2 σ) x2 (nI 0) (σ 112 23) σ
def f_MO_heads_148 (K64 : Int32 → Int32 → Int32 → Sg → Option (Int32 × Sg)) (x2 : Int32) (x3 : Int32) (t0 : Int32) (σ : Sg) : Option (Int32 × Sg) :=
  gd (inb x2 20) <|
  lt' (up σ 117 x2.toNatClampNeg t0) fun σ2 =>
  gd (inb x3 20) <|
  lt' (up σ2 117 x3.toNatClampNeg t0) fun σ4 =>
  K64 (nI 1) x2 (x3 + (nI 1)) σ4
def f_MO_heads_118 (K64 : Int32 → Int32 → Int32 → Sg → Option (Int32 × Sg)) (x2 : Int32) (x3 : Int32) (σ : Sg) : Option (Int32 × Sg) :=
  gd (inb x2 20) <|
  gd (inb x3 20) <|
  if (σ 117 x3.toNatClampNeg) ≤ (σ 117 x2.toNatClampNeg) then
    gd (inb x3 20) <|
    f_MO_heads_148 K64 x2 x3 (σ 117 x3.toNatClampNeg) σ
  else
    gd (inb x2 20) <|
    f_MO_heads_148 K64 x2 x3 (σ 117 x2.toNatClampNeg) σ
def f_MO_heads_64 (K52 : Int32 → Int32 → Sg → Option (Int32 × Sg)) : Nat → Int32 → Int32 → Int32 → Sg → Option (Int32 × Sg)
  | 0, _, _, _, _ => none
  | n9 + 1, x1, x2, x3, σ =>
    if x2 ≤ x3 then
      K52 x1 (x2 + (nI 1)) σ
    else
      bd (f_MO_is x2 σ) fun r2 σ3 =>
      if r2 = (nI 0) then
        f_MO_heads_64 K52 n9 x1 x2 (x3 + (nI 1)) σ3
      else
        bd (f_MO_is x3 σ3) fun r5 σ6 =>
        if r5 = (nI 0) then
          f_MO_heads_64 K52 n9 x1 x2 (x3 + (nI 1)) σ6
        else
          gd (inb x2 20) <|
          gd (inb x3 20) <|
          if (σ6 117 x2.toNatClampNeg) = (σ6 117 x3.toNatClampNeg) then
            f_MO_heads_64 K52 n9 x1 x2 (x3 + (nI 1)) σ6
          else
            bd (f_MO_isLinked x2 x3 σ6) fun r11 σ12 =>
            if r11 = (nI 0) then
              bd (f_MO_isAlike x2 x3 σ12) fun r14 σ15 =>
              if r14 = (nI 0) then
                f_MO_heads_64 K52 n9 x1 x2 (x3 + (nI 1)) σ15
              else
                f_MO_heads_118 (fun x1 x2 x3 σ => f_MO_heads_64 K52 n9 x1 x2 x3 σ) x2 x3 σ15
            else
              f_MO_heads_118 (fun x1 x2 x3 σ => f_MO_heads_64 K52 n9 x1 x2 x3 σ) x2 x3 σ12
def f_MO_heads_52 (K44 : Int32 → Sg → Option (Int32 × Sg)) : Nat → Int32 → Int32 → Sg → Option (Int32 × Sg)
  | 0, _, _, _ => none
  | n9 + 1, x1, x2, σ =>
    gd (inb (nI 0) 1385) <|
    if (σ 113 (nI 0).toNatClampNeg) ≤ x2 then
      K44 x1 σ
    else
      f_MO_heads_64 (fun x1 x2 σ => f_MO_heads_52 K44 n9 x1 x2 σ) FU x1 x2 (nI 0) σ
def f_MO_heads_44 : Nat → Int32 → Sg → Option (Int32 × Sg)
  | 0, _, _ => none
  | n9 + 1, x1, σ =>
    if x1 = (nI 0) then
      f_MO_heads_185 FU (nI 0) σ
    else
      f_MO_heads_52 (fun x1 σ => f_MO_heads_44 n9 x1 σ) FU (nI 0) (nI 0) σ
def f_MO_heads_35 (K11 : Int32 → Sg → Option (Int32 × Sg)) (x1 : Int32) (t0 : Int32) (t1 : Int32) (σ : Sg) : Option (Int32 × Sg) :=
  gd (inb t1 20) <|
  lt' (up σ 117 t1.toNatClampNeg t0) fun σ2 =>
  K11 (x1 + (nI 1)) σ2
def f_MO_heads_11 : Nat → Int32 → Sg → Option (Int32 × Sg)
  | 0, _, _ => none
  | n9 + 1, x1, σ =>
    if (nI 20) ≤ x1 then
      f_MO_heads_44 FU (nI 1) σ
    else
      bd (f_MO_is x1 σ) fun r2 σ3 =>
      if r2 = (nI 0) then
        f_MO_heads_35 (fun x1 σ => f_MO_heads_11 n9 x1 σ) x1 (-1) x1 σ3
      else
        f_MO_heads_35 (fun x1 σ => f_MO_heads_11 n9 x1 σ) x1 x1 x1 σ3
def f_MO_heads (σ : Sg) : Option (Int32 × Sg) :=
  bd (f_MO_takesCores σ) fun r1 σ2 =>
  lt' (up σ2 112 23 (nI 0)) fun σ3 =>
  f_MO_heads_11 FU (nI 0) σ3
def f_MO_isHead (x1 : Int32) (σ : Sg) : Option (Int32 × Sg) :=
  if x1 < (nI 0) then
    some ((nI 0), σ)
  else
    gd (inb x1 20) <|
    if (σ 117 x1.toNatClampNeg) = x1 then
      some ((nI 1), σ)
    else
      some ((nI 0), σ)
def f_MO_counts_107 (K12 : Int32 → Int32 → Int32 → Sg → Option (Int32 × Sg)) (x1 : Int32) (x2 : Int32) (x3 : Int32) (x4 : Int32) (x5 : Int32) (σ : Sg) : Option (Int32 × Sg) :=
  if x5 = (nI 0) then
    K12 x1 x2 (x3 + (nI 1)) σ
  else
    gd (inb (((nI 3) * x1) + x2) 36) <|
    lt' (up σ 128 (((nI 3) * x1) + x2).toNatClampNeg x4) fun σ3 =>
    K12 x1 (x2 + (nI 1)) (x3 + (nI 1)) σ3
def f_MO_counts_57 (K12 : Int32 → Int32 → Int32 → Sg → Option (Int32 × Sg)) : Nat → Int32 → Int32 → Int32 → Int32 → Int32 → Int32 → Sg → Option (Int32 × Sg)
  | 0, _, _, _, _, _, _, _ => none
  | n9 + 1, x1, x2, x3, x4, x5, x6, σ =>
    if x2 ≤ x6 then
      f_MO_counts_107 K12 x1 x2 x3 x4 x5 σ
    else
      if x5 = (nI 0) then
        f_MO_counts_107 K12 x1 x2 x3 x4 x5 σ
      else
        gd (inb (((nI 3) * x1) + x6) 36) <|
        gd (inb (σ 128 (((nI 3) * x1) + x6).toNatClampNeg) 20) <|
        gd (inb x4 20) <|
        if (σ 117 (σ 128 (((nI 3) * x1) + x6).toNatClampNeg).toNatClampNeg) = (σ 117 x4.toNatClampNeg) then
          f_MO_counts_57 K12 n9 x1 x2 x3 x4 (nI 0) (x6 + (nI 1)) σ
        else
          f_MO_counts_57 K12 n9 x1 x2 x3 x4 (nI 1) (x6 + (nI 1)) σ
def f_MO_counts_12 (K2 : Int32 → Sg → Option (Int32 × Sg)) : Nat → Int32 → Int32 → Int32 → Sg → Option (Int32 × Sg)
  | 0, _, _, _, _ => none
  | n9 + 1, x1, x2, x3, σ =>
    if (nI 3) ≤ x3 then
      K2 (x1 + (nI 1)) σ
    else
      gd (inb (((nI 3) * x1) + x3) 36) <|
      lt' (up σ 128 (((nI 3) * x1) + x3).toNatClampNeg (-1)) fun σ3 =>
      gd (inb (((nI 1289) + ((nI 3) * x1)) + x3) 1385) <|
      lt' ((σ3 113 (((nI 1289) + ((nI 3) * x1)) + x3).toNatClampNeg) - (nI 1)) fun v5 =>
      bd (f_MO_is v5 σ3) fun r6 σ7 =>
      f_MO_counts_57 (fun x1 x2 x3 σ => f_MO_counts_12 K2 n9 x1 x2 x3 σ) FU x1 x2 x3 v5 r6 (nI 0) σ7
def f_MO_counts_2 : Nat → Int32 → Sg → Option (Int32 × Sg)
  | 0, _, _ => none
  | n9 + 1, x1, σ =>
    if (nI 12) ≤ x1 then
      some (0, σ)
    else
      f_MO_counts_12 (fun x1 σ => f_MO_counts_2 n9 x1 σ) FU x1 (nI 0) (nI 0) σ
def f_MO_counts (σ : Sg) : Option (Int32 × Sg) :=
  f_MO_counts_2 FU (nI 0) σ
def f_MO_most_5 : Nat → Int32 → Int32 → Int32 → Int32 → Sg → Option (Int32 × Sg)
  | 0, _, _, _, _, _ => none
  | n9 + 1, x1, x2, x3, x4, σ =>
    gd (inb (nI 0) 1385) <|
    if (σ 113 (nI 0).toNatClampNeg) ≤ x4 then
      some (x3, σ)
    else
      gd (inb (((nI 1325) + ((nI 20) * x1)) + x4) 1385) <|
      lt' ((σ 113 (((nI 1325) + ((nI 20) * x1)) + x4).toNatClampNeg) - (nI 1)) fun v4 =>
      gd (inb x4 20) <|
      if (σ 117 x4.toNatClampNeg) = x2 then
        if v4 ≤ x3 then
          f_MO_most_5 n9 x1 x2 x3 (x4 + (nI 1)) σ
        else
          f_MO_most_5 n9 x1 x2 v4 (x4 + (nI 1)) σ
      else
        f_MO_most_5 n9 x1 x2 x3 (x4 + (nI 1)) σ
def f_MO_most (x1 : Int32) (x2 : Int32) (σ : Sg) : Option (Int32 × Sg) :=
  f_MO_most_5 FU x1 x2 (nI 0) (nI 0) σ
def f_MO_rank_13 : Nat → Int32 → Int32 → Int32 → Int32 → Sg → Option (Int32 × Sg)
  | 0, _, _, _, _, _ => none
  | n9 + 1, x1, x3, x4, x5, σ =>
    gd (inb (nI 0) 1385) <|
    if (σ 113 (nI 0).toNatClampNeg) ≤ x5 then
      some (x3, σ)
    else
      bd (f_MO_isHead x5 σ) fun r3 σ4 =>
      if r3 = (nI 0) then
        lt' (x3 + (nI 0)) fun v6 =>
        f_MO_rank_13 n9 x1 v6 x4 (x5 + (nI 1)) σ4
      else
        bd (f_MO_most x1 x5 σ4) fun r7 σ8 =>
        if r7 ≤ x4 then
          lt' (x3 + (nI 0)) fun v10 =>
          f_MO_rank_13 n9 x1 v10 x4 (x5 + (nI 1)) σ8
        else
          lt' (x3 + (nI 1)) fun v11 =>
          f_MO_rank_13 n9 x1 v11 x4 (x5 + (nI 1)) σ8
def f_MO_rank (x1 : Int32) (x2 : Int32) (σ : Sg) : Option (Int32 × Sg) :=
  bd (f_MO_most x1 x2 σ) fun r1 σ2 =>
  f_MO_rank_13 FU x1 (nI 1) r1 (nI 0) σ2
def f_MO_tallies_135 (K76 : Int32 → Sg → Option (Int32 × Sg)) (x1 : Int32) (t0 : Int32) (t1 : Int32) (t2 : Int32) (σ : Sg) : Option (Int32 × Sg) :=
  gd (inb t2 20) <|
  lt' (up σ 119 t2.toNatClampNeg (t1 + t0)) fun σ2 =>
  K76 (x1 + (nI 1)) σ2
def f_MO_tallies_76 : Nat → Int32 → Sg → Option (Int32 × Sg)
  | 0, _, _ => none
  | n9 + 1, x1, σ =>
    if (nI 36) ≤ x1 then
      some (0, σ)
    else
      gd (inb x1 36) <|
      if (σ 128 x1.toNatClampNeg) < (nI 0) then
        f_MO_tallies_76 n9 (x1 + (nI 1)) σ
      else
        gd (inb x1 36) <|
        gd (inb (σ 128 x1.toNatClampNeg) 20) <|
        lt' (σ 117 (σ 128 x1.toNatClampNeg).toNatClampNeg) fun v6 =>
        gd (inb v6 20) <|
        gd (nz (nI 3)) <|
        gd (inb v6 20) <|
        lt' (up σ 118 v6.toNatClampNeg ((σ 118 v6.toNatClampNeg) + ((nI 3) - (irm x1 (nI 3))))) fun σ10 =>
        gd (inb v6 20) <|
        gd (nz (nI 3)) <|
        if (irm x1 (nI 3)) = (nI 0) then
          f_MO_tallies_135 (fun x1 σ => f_MO_tallies_76 n9 x1 σ) x1 (nI 1) (σ10 119 v6.toNatClampNeg) v6 σ10
        else
          f_MO_tallies_135 (fun x1 σ => f_MO_tallies_76 n9 x1 σ) x1 (nI 0) (σ10 119 v6.toNatClampNeg) v6 σ10
def f_MO_tallies_67 (K10 : Int32 → Sg → Option (Int32 × Sg)) (x1 : Int32) (t0 : Int32) (t1 : Int32) (σ : Sg) : Option (Int32 × Sg) :=
  gd (inb t1 20) <|
  lt' (up σ 120 t1.toNatClampNeg t0) fun σ2 =>
  K10 (x1 + (nI 1)) σ2
def f_MO_tallies_10 : Nat → Int32 → Sg → Option (Int32 × Sg)
  | 0, _, _ => none
  | n9 + 1, x1, σ =>
    if (nI 20) ≤ x1 then
      f_MO_tallies_76 FU (nI 0) σ
    else
      gd (inb x1 20) <|
      lt' (up σ 118 x1.toNatClampNeg (nI 0)) fun σ3 =>
      gd (inb x1 20) <|
      lt' (up σ3 119 x1.toNatClampNeg (nI 0)) fun σ5 =>
      bd (f_MO_isHead x1 σ5) fun r6 σ7 =>
      if r6 = (nI 0) then
        f_MO_tallies_67 (fun x1 σ => f_MO_tallies_10 n9 x1 σ) x1 (nI 0) x1 σ7
      else
        bd (f_MO_rank (nI 0) x1 σ7) fun r9 σ10 =>
        bd (f_MO_rank (nI 1) x1 σ10) fun r11 σ12 =>
        bd (f_MO_rank (nI 2) x1 σ12) fun r13 σ14 =>
        f_MO_tallies_67 (fun x1 σ => f_MO_tallies_10 n9 x1 σ) x1 ((r9 + r11) + r13) x1 σ14
def f_MO_tallies (σ : Sg) : Option (Int32 × Sg) :=
  bd (f_MO_heads σ) fun r1 σ2 =>
  bd (f_MO_counts σ2) fun r3 σ4 =>
  f_MO_tallies_10 FU (nI 0) σ4
def f_MO_standsFor_2 : Nat → Int32 → Int32 → Sg → Option (Int32 × Sg)
  | 0, _, _, _ => none
  | n9 + 1, x1, x2, σ =>
    if (nI 3) ≤ x2 then
      some ((-1), σ)
    else
      gd (inb (((nI 3) * x1) + x2) 36) <|
      lt' (σ 128 (((nI 3) * x1) + x2).toNatClampNeg) fun v3 =>
      if v3 < (nI 0) then
        f_MO_standsFor_2 n9 x1 (x2 + (nI 1)) σ
      else
        gd (inb v3 20) <|
        gd (inb (σ 117 v3.toNatClampNeg) 20) <|
        if (nI 0) ≤ (σ 121 (σ 117 v3.toNatClampNeg).toNatClampNeg) then
          f_MO_standsFor_2 n9 x1 (x2 + (nI 1)) σ
        else
          gd (inb v3 20) <|
          some ((σ 117 v3.toNatClampNeg), σ)
def f_MO_standsFor (x1 : Int32) (σ : Sg) : Option (Int32 × Sg) :=
  f_MO_standsFor_2 FU x1 (nI 0) σ
def f_MO_goesRounds_193 (K112 : Int32 → Int32 → Int32 → Sg → Option (Int32 × Sg)) (x1 : Int32) (x2 : Int32) (x3 : Int32) (t0 : Int32) (σ : Sg) : Option (Int32 × Sg) :=
  if t0 = (nI 0) then
    K112 x1 x2 (x3 + (nI 1)) σ
  else
    K112 x1 x3 (x3 + (nI 1)) σ
def f_MO_goesRounds_112 (K23 : Int32 → Sg → Option (Int32 × Sg)) : Nat → Int32 → Int32 → Int32 → Sg → Option (Int32 × Sg)
  | 0, _, _, _, _ => none
  | n9 + 1, x1, x2, x3, σ =>
    gd (inb (nI 0) 1385) <|
    if (σ 113 (nI 0).toNatClampNeg) ≤ x3 then
      gd (inb x2 20) <|
      lt' (up σ 121 x2.toNatClampNeg x1) fun σ4 =>
      gd (inb x1 20) <|
      lt' (up σ4 122 x1.toNatClampNeg x2) fun σ6 =>
      gd (inb x2 20) <|
      gd (inb x1 20) <|
      lt' (up σ6 123 x1.toNatClampNeg (σ6 127 x2.toNatClampNeg)) fun σ9 =>
      K23 (x1 + (nI 1)) σ9
    else
      bd (f_MO_isHead x3 σ) fun r10 σ11 =>
      if r10 = (nI 0) then
        f_MO_goesRounds_112 K23 n9 x1 x2 (x3 + (nI 1)) σ11
      else
        gd (inb x3 20) <|
        if (nI 0) ≤ (σ11 121 x3.toNatClampNeg) then
          f_MO_goesRounds_112 K23 n9 x1 x2 (x3 + (nI 1)) σ11
        else
          if x2 < (nI 0) then
            f_MO_goesRounds_193 (fun x1 x2 x3 σ => f_MO_goesRounds_112 K23 n9 x1 x2 x3 σ) x1 x2 x3 (nI 1) σ11
          else
            gd (inb x3 20) <|
            gd (inb x2 20) <|
            if (σ11 127 x3.toNatClampNeg) < (σ11 127 x2.toNatClampNeg) then
              f_MO_goesRounds_193 (fun x1 x2 x3 σ => f_MO_goesRounds_112 K23 n9 x1 x2 x3 σ) x1 x2 x3 (nI 1) σ11
            else
              gd (inb x3 20) <|
              gd (inb x2 20) <|
              if (σ11 127 x3.toNatClampNeg) = (σ11 127 x2.toNatClampNeg) then
                gd (inb x3 20) <|
                gd (inb x2 20) <|
                if (σ11 120 x3.toNatClampNeg) < (σ11 120 x2.toNatClampNeg) then
                  f_MO_goesRounds_193 (fun x1 x2 x3 σ => f_MO_goesRounds_112 K23 n9 x1 x2 x3 σ) x1 x2 x3 (nI 0) σ11
                else
                  f_MO_goesRounds_193 (fun x1 x2 x3 σ => f_MO_goesRounds_112 K23 n9 x1 x2 x3 σ) x1 x2 x3 (nI 1) σ11
              else
                f_MO_goesRounds_193 (fun x1 x2 x3 σ => f_MO_goesRounds_112 K23 n9 x1 x2 x3 σ) x1 x2 x3 (nI 0) σ11
def f_MO_goesRounds_63 (K23 : Int32 → Sg → Option (Int32 × Sg)) : Nat → Int32 → Int32 → Sg → Option (Int32 × Sg)
  | 0, _, _, _ => none
  | n9 + 1, x1, x2, σ =>
    if (nI 12) ≤ x2 then
      f_MO_goesRounds_112 K23 FU x1 (-1) (nI 0) σ
    else
      bd (f_MO_standsFor x2 σ) fun r2 σ3 =>
      if (nI 0) ≤ r2 then
        gd (inb r2 20) <|
        gd (inb r2 20) <|
        lt' (up σ3 127 r2.toNatClampNeg ((σ3 127 r2.toNatClampNeg) + (nI 1))) fun σ7 =>
        f_MO_goesRounds_63 K23 n9 x1 (x2 + (nI 1)) σ7
      else
        gd (inb x1 20) <|
        gd (inb x1 20) <|
        lt' (up σ3 124 x1.toNatClampNeg ((σ3 124 x1.toNatClampNeg) + (nI 1))) fun σ10 =>
        f_MO_goesRounds_63 K23 n9 x1 (x2 + (nI 1)) σ10
def f_MO_goesRounds_35 (K23 : Int32 → Sg → Option (Int32 × Sg)) : Nat → Int32 → Int32 → Sg → Option (Int32 × Sg)
  | 0, _, _, _ => none
  | n9 + 1, x1, x2, σ =>
    if (nI 20) ≤ x2 then
      gd (inb x1 20) <|
      lt' (up σ 124 x1.toNatClampNeg (nI 0)) fun σ3 =>
      f_MO_goesRounds_63 K23 FU x1 (nI 0) σ3
    else
      gd (inb x2 20) <|
      lt' (up σ 127 x2.toNatClampNeg (nI 0)) fun σ5 =>
      f_MO_goesRounds_35 K23 n9 x1 (x2 + (nI 1)) σ5
def f_MO_goesRounds_23 : Nat → Int32 → Sg → Option (Int32 × Sg)
  | 0, _, _ => none
  | n9 + 1, x1, σ =>
    if (σ 112 23) ≤ (x1 + (nI 1)) then
      some (0, σ)
    else
      f_MO_goesRounds_35 (fun x1 σ => f_MO_goesRounds_23 n9 x1 σ) FU x1 (nI 0) σ
def f_MO_goesRounds_2 : Nat → Int32 → Sg → Option (Int32 × Sg)
  | 0, _, _ => none
  | n9 + 1, x1, σ =>
    if (nI 20) ≤ x1 then
      f_MO_goesRounds_23 FU (nI 0) σ
    else
      gd (inb x1 20) <|
      lt' (up σ 121 x1.toNatClampNeg (-1)) fun σ3 =>
      f_MO_goesRounds_2 n9 (x1 + (nI 1)) σ3
def f_MO_goesRounds (σ : Sg) : Option (Int32 × Sg) :=
  f_MO_goesRounds_2 FU (nI 0) σ
def f_MO_tally (x1 : Int32) (σ : Sg) : Option (Int32 × Sg) :=
  gd (inb x1 20) <|
  gd (inb x1 20) <|
  some ((((nI 10) * (σ 118 x1.toNatClampNeg)) - (σ 120 x1.toNatClampNeg)), σ)
def f_MO_isAhead_74 (x3 : Int32) (σ : Sg) : Option (Int32 × Sg) :=
  if x3 ≤ (nI 0) then
    some ((nI 0), σ)
  else
    some ((nI 1), σ)
def f_MO_isAhead_119 (x1 : Int32) (x2 : Int32) (t0 : Int32) (σ : Sg) : Option (Int32 × Sg) :=
  if (nI 0) < t0 then
    some ((nI 1), σ)
  else
    if t0 = (nI 0) then
      if x2 ≤ x1 then
        some ((nI 0), σ)
      else
        some ((nI 1), σ)
    else
      some ((nI 0), σ)
def f_MO_isAhead (x1 : Int32) (x2 : Int32) (σ : Sg) : Option (Int32 × Sg) :=
  gd (inb (nI 1) 1385) <|
  if (σ 113 (nI 1).toNatClampNeg) = (nI 1) then
    gd (inb x2 20) <|
    if (σ 121 x2.toNatClampNeg) < (nI 0) then
      some ((nI 0), σ)
    else
      gd (inb x1 20) <|
      if (σ 121 x1.toNatClampNeg) < (nI 0) then
        some ((nI 1), σ)
      else
        gd (inb x1 20) <|
        gd (inb x2 20) <|
        if (σ 121 x1.toNatClampNeg) ≤ (σ 121 x2.toNatClampNeg) then
          some ((nI 0), σ)
        else
          some ((nI 1), σ)
  else
    bd (f_MO_tally x1 σ) fun r3 σ4 =>
    bd (f_MO_tally x2 σ4) fun r5 σ6 =>
    lt' (r3 - r5) fun v7 =>
    if v7 = (nI 0) then
      gd (inb (nI 3) 1385) <|
      if (σ6 113 (nI 3).toNatClampNeg) = (nI 0) then
        f_MO_isAhead_74 v7 σ6
      else
        gd (inb x1 20) <|
        gd (inb x2 20) <|
        lt' ((σ6 119 x1.toNatClampNeg) - (σ6 119 x2.toNatClampNeg)) fun v13 =>
        if v13 = (nI 0) then
          gd (inb x2 20) <|
          gd (inb x1 20) <|
          f_MO_isAhead_119 x1 x2 ((σ6 120 x2.toNatClampNeg) - (σ6 120 x1.toNatClampNeg)) σ6
        else
          f_MO_isAhead_119 x1 x2 v13 σ6
    else
      f_MO_isAhead_74 v7 σ6
def f_MO_orders_97 (K55 : Int32 → Int32 → Int32 → Int32 → Sg → Option (Int32 × Sg)) (x1 : Int32) (x3 : Int32) (x4 : Int32) (t0 : Int32) (t1 : Int32) (σ : Sg) : Option (Int32 × Sg) :=
  lt' (t1 + t0) fun v1 =>
  bd (f_MO_isAhead x4 x1 σ) fun r2 σ3 =>
  if r2 = (nI 0) then
    bd (f_MO_isAhead x1 x4 σ3) fun r6 σ7 =>
    if r6 = (nI 0) then
      if x1 ≤ x4 then
        lt' (x3 + (nI 0)) fun v11 =>
        K55 x1 v1 v11 (x4 + (nI 1)) σ7
      else
        lt' (x3 + (nI 1)) fun v12 =>
        K55 x1 v1 v12 (x4 + (nI 1)) σ7
    else
      lt' (x3 + (nI 0)) fun v9 =>
      K55 x1 v1 v9 (x4 + (nI 1)) σ7
  else
    lt' (x3 + (nI 1)) fun v5 =>
    K55 x1 v1 v5 (x4 + (nI 1)) σ3
def f_MO_orders_55 (K30 : Int32 → Sg → Option (Int32 × Sg)) : Nat → Int32 → Int32 → Int32 → Int32 → Sg → Option (Int32 × Sg)
  | 0, _, _, _, _, _ => none
  | n9 + 1, x1, x2, x3, x4, σ =>
    gd (inb (nI 0) 1385) <|
    if (σ 113 (nI 0).toNatClampNeg) ≤ x4 then
      gd (inb x1 20) <|
      lt' (up σ 125 x1.toNatClampNeg ((nI 1) + x2)) fun σ4 =>
      gd (inb x3 20) <|
      lt' (up σ4 126 x3.toNatClampNeg x1) fun σ6 =>
      K30 (x1 + (nI 1)) σ6
    else
      bd (f_MO_isHead x4 σ) fun r7 σ8 =>
      if r7 = (nI 0) then
        f_MO_orders_55 K30 n9 x1 x2 x3 (x4 + (nI 1)) σ8
      else
        if x4 = x1 then
          f_MO_orders_55 K30 n9 x1 x2 x3 (x4 + (nI 1)) σ8
        else
          bd (f_MO_isAhead x4 x1 σ8) fun r11 σ12 =>
          if r11 = (nI 0) then
            f_MO_orders_97 (fun x1 x2 x3 x4 σ => f_MO_orders_55 K30 n9 x1 x2 x3 x4 σ) x1 x3 x4 (nI 0) x2 σ12
          else
            f_MO_orders_97 (fun x1 x2 x3 x4 σ => f_MO_orders_55 K30 n9 x1 x2 x3 x4 σ) x1 x3 x4 (nI 1) x2 σ12
def f_MO_orders_30 : Nat → Int32 → Sg → Option (Int32 × Sg)
  | 0, _, _ => none
  | n9 + 1, x1, σ =>
    gd (inb (nI 0) 1385) <|
    if (σ 113 (nI 0).toNatClampNeg) ≤ x1 then
      some (0, σ)
    else
      bd (f_MO_isHead x1 σ) fun r3 σ4 =>
      if r3 = (nI 0) then
        f_MO_orders_30 n9 (x1 + (nI 1)) σ4
      else
        f_MO_orders_55 (fun x1 σ => f_MO_orders_30 n9 x1 σ) FU x1 (nI 0) (nI 0) (nI 0) σ4
def f_MO_orders_2 : Nat → Int32 → Sg → Option (Int32 × Sg)
  | 0, _, _ => none
  | n9 + 1, x1, σ =>
    if (nI 20) ≤ x1 then
      f_MO_orders_30 FU (nI 0) σ
    else
      gd (inb x1 20) <|
      lt' (up σ 125 x1.toNatClampNeg (nI 0)) fun σ3 =>
      gd (inb x1 20) <|
      lt' (up σ3 127 x1.toNatClampNeg (nI 0)) fun σ5 =>
      f_MO_orders_2 n9 (x1 + (nI 1)) σ5
def f_MO_orders (σ : Sg) : Option (Int32 × Sg) :=
  f_MO_orders_2 FU (nI 0) σ
def f_MO_prizeOf (x1 : Int32) (σ : Sg) : Option (Int32 × Sg) :=
  gd (inb (nI 2) 1385) <|
  if (σ 113 (nI 2).toNatClampNeg) < x1 then
    some ((nI 0), σ)
  else
    gd (inb (((nI 4) + x1) - (nI 1)) 1385) <|
    some ((σ 113 (((nI 4) + x1) - (nI 1)).toNatClampNeg), σ)
def f_MO_shares_90 (K49 : Int32 → Int32 → Int32 → Int32 → Int32 → Sg → Option (Int32 × Sg)) (x1 : Int32) (x2 : Int32) (x3 : Int32) (x4 : Int32) (x5 : Int32) (t0 : Int32) (t1 : Int32) (t2 : Int32) (σ : Sg) : Option (Int32 × Sg) :=
  gd (inb t2 20) <|
  lt' (up σ 127 t2.toNatClampNeg (t1 + t0)) fun σ2 =>
  K49 x1 x2 x3 (x4 + (-1)) (x5 + (nI 1)) σ2
def f_MO_shares_49 : Nat → Int32 → Int32 → Int32 → Int32 → Int32 → Sg → Option (Int32 × Sg)
  | 0, _, _, _, _, _, _ => none
  | n9 + 1, x1, x2, x3, x4, x5, σ =>
    gd (inb (nI 0) 1385) <|
    if (σ 113 (nI 0).toNatClampNeg) ≤ x5 then
      some (0, σ)
    else
      gd (inb x5 20) <|
      if (σ 117 x5.toNatClampNeg) = x1 then
        gd (nz x3) <|
        if x4 ≤ (nI 0) then
          f_MO_shares_90 (fun x1 x2 x3 x4 x5 σ => f_MO_shares_49 n9 x1 x2 x3 x4 x5 σ) x1 x2 x3 x4 x5 (nI 0) (x2 / x3) x5 σ
        else
          f_MO_shares_90 (fun x1 x2 x3 x4 x5 σ => f_MO_shares_49 n9 x1 x2 x3 x4 x5 σ) x1 x2 x3 x4 x5 (nI 1) (x2 / x3) x5 σ
      else
        f_MO_shares_49 n9 x1 x2 x3 x4 (x5 + (nI 1)) σ
def f_MO_shares_5 : Nat → Int32 → Int32 → Int32 → Int32 → Sg → Option (Int32 × Sg)
  | 0, _, _, _, _, _ => none
  | n9 + 1, x1, x2, x3, x4, σ =>
    gd (inb (nI 0) 1385) <|
    if (σ 113 (nI 0).toNatClampNeg) ≤ x4 then
      gd (nz x3) <|
      lt' (irm x2 x3) fun v4 =>
      f_MO_shares_49 FU x1 x2 x3 v4 (nI 0) σ
    else
      gd (inb x4 20) <|
      if (σ 117 x4.toNatClampNeg) = x1 then
        lt' (x3 + (nI 1)) fun v8 =>
        f_MO_shares_5 n9 x1 x2 v8 (x4 + (nI 1)) σ
      else
        lt' (x3 + (nI 0)) fun v7 =>
        f_MO_shares_5 n9 x1 x2 v7 (x4 + (nI 1)) σ
def f_MO_shares (x1 : Int32) (x2 : Int32) (σ : Sg) : Option (Int32 × Sg) :=
  f_MO_shares_5 FU x1 x2 (nI 0) (nI 0) σ
def f_MO_works_132 (K100 : Int32 → Int32 → Int32 → Int32 → Sg → Option (Int32 × Sg)) (x1 : Int32) (x2 : Int32) (x3 : Int32) (x4 : Int32) (t0 : Int32) (t1 : Int32) (t2 : Int32) (σ : Sg) : Option (Int32 × Sg) :=
  bd (f_MO_shares t2 (t1 + t0) σ) fun r1 σ2 =>
  K100 x1 x2 x3 (x4 + (nI 1)) σ2
def f_MO_works_100 (K14 : Int32 → Sg → Option (Int32 × Sg)) : Nat → Int32 → Int32 → Int32 → Int32 → Sg → Option (Int32 × Sg)
  | 0, _, _, _, _, _ => none
  | n9 + 1, x1, x2, x3, x4, σ =>
    if x2 ≤ x4 then
      lt' (x1 + x2) fun v2 =>
      K14 v2 σ
    else
      gd (inb (x1 + x4) 20) <|
      gd (nz x2) <|
      gd (nz x2) <|
      if (irm x3 x2) ≤ x4 then
        f_MO_works_132 (fun x1 x2 x3 x4 σ => f_MO_works_100 K14 n9 x1 x2 x3 x4 σ) x1 x2 x3 x4 (nI 0) (x3 / x2) (σ 126 (x1 + x4).toNatClampNeg) σ
      else
        f_MO_works_132 (fun x1 x2 x3 x4 σ => f_MO_works_100 K14 n9 x1 x2 x3 x4 σ) x1 x2 x3 x4 (nI 1) (x3 / x2) (σ 126 (x1 + x4).toNatClampNeg) σ
def f_MO_works_72 (K14 : Int32 → Sg → Option (Int32 × Sg)) : Nat → Int32 → Int32 → Int32 → Int32 → Sg → Option (Int32 × Sg)
  | 0, _, _, _, _, _ => none
  | n9 + 1, x1, x2, x3, x4, σ =>
    if x2 ≤ x4 then
      f_MO_works_100 K14 FU x1 x2 x3 (nI 0) σ
    else
      bd (f_MO_prizeOf ((x1 + x4) + (nI 1)) σ) fun r2 σ3 =>
      lt' (x3 + r2) fun v4 =>
      f_MO_works_72 K14 n9 x1 x2 v4 (x4 + (nI 1)) σ3
def f_MO_works_67 (K14 : Int32 → Sg → Option (Int32 × Sg)) (x1 : Int32) (x2 : Int32) (σ : Sg) : Option (Int32 × Sg) :=
  f_MO_works_72 K14 FU x1 x2 (nI 0) (nI 0) σ
def f_MO_works_24 (K14 : Int32 → Sg → Option (Int32 × Sg)) : Nat → Int32 → Int32 → Sg → Option (Int32 × Sg)
  | 0, _, _, _ => none
  | n9 + 1, x1, x2, σ =>
    if (σ 112 23) ≤ (x1 + x2) then
      f_MO_works_67 K14 x1 x2 σ
    else
      gd (inb (x1 + x2) 20) <|
      gd (inb (σ 126 (x1 + x2).toNatClampNeg) 20) <|
      gd (inb x1 20) <|
      gd (inb (σ 126 x1.toNatClampNeg) 20) <|
      if (σ 125 (σ 126 (x1 + x2).toNatClampNeg).toNatClampNeg) = (σ 125 (σ 126 x1.toNatClampNeg).toNatClampNeg) then
        f_MO_works_24 K14 n9 x1 (x2 + (nI 1)) σ
      else
        f_MO_works_67 K14 x1 x2 σ
def f_MO_works_14 : Nat → Int32 → Sg → Option (Int32 × Sg)
  | 0, _, _ => none
  | n9 + 1, x1, σ =>
    if (σ 112 23) ≤ x1 then
      some (0, σ)
    else
      f_MO_works_24 (fun x1 σ => f_MO_works_14 n9 x1 σ) FU x1 (nI 1) σ
def f_MO_works (σ : Sg) : Option (Int32 × Sg) :=
  bd (f_MO_tallies σ) fun r1 σ2 =>
  bd (f_MO_goesRounds σ2) fun r3 σ4 =>
  bd (f_MO_orders σ4) fun r5 σ6 =>
  f_MO_works_14 FU (nI 0) σ6
def f_MO_getsGroup_4 : Nat → Int32 → Int32 → Int32 → Sg → Option (Int32 × Sg)
  | 0, _, _, _, _ => none
  | n9 + 1, x1, x2, x3, σ =>
    gd (inb (nI 0) 1385) <|
    if (σ 113 (nI 0).toNatClampNeg) ≤ x3 then
      some (x2, σ)
    else
      gd (inb x3 20) <|
      if (σ 117 x3.toNatClampNeg) = x1 then
        gd (inb x3 20) <|
        lt' (x2 + (σ 127 x3.toNatClampNeg)) fun v7 =>
        f_MO_getsGroup_4 n9 x1 v7 (x3 + (nI 1)) σ
      else
        lt' (x2 + (nI 0)) fun v5 =>
        f_MO_getsGroup_4 n9 x1 v5 (x3 + (nI 1)) σ
def f_MO_getsGroup (x1 : Int32) (σ : Sg) : Option (Int32 × Sg) :=
  f_MO_getsGroup_4 FU x1 (nI 0) (nI 0) σ
def f_MO_fault_4 : Nat → Int32 → Int32 → Sg → Option (Int32 × Sg)
  | 0, _, _, _ => none
  | n9 + 1, x1, x2, σ =>
    if (σ 112 5) ≤ x2 then
      if x1 = (nI 0) then
        some ((σ 112 5), σ)
      else
        some ((-1), σ)
    else
      gd (inb x2 60) <|
      bd (f_MO_isSign (σ 116 x2.toNatClampNeg) σ) fun r4 σ5 =>
      if r4 = (nI 0) then
        some (x2, σ5)
      else
        gd (inb x2 60) <|
        bd (f_MO_isLetter (σ5 116 x2.toNatClampNeg) σ5) fun r8 σ9 =>
        lt' (x1 ||| r8) fun v10 =>
        f_MO_fault_4 n9 v10 (x2 + (nI 1)) σ9
def f_MO_fault (σ : Sg) : Option (Int32 × Sg) :=
  f_MO_fault_4 FU (nI 0) (nI 0) σ
def f_MO_submit_91 : Nat → Int32 → Int32 → Sg → Option (Int32 × Sg)
  | 0, _, _, _ => none
  | n9 + 1, x3, x4, σ =>
    if (σ 112 5) ≤ x4 then
      some (x3, σ)
    else
      gd (inb x4 60) <|
      gd (inb (((nI 89) + ((nI 60) * x3)) + x4) 1385) <|
      lt' (up σ 113 (((nI 89) + ((nI 60) * x3)) + x4).toNatClampNeg (σ 116 x4.toNatClampNeg)) fun σ4 =>
      f_MO_submit_91 n9 x3 (x4 + (nI 1)) σ4
def f_MO_submit (x1 : Int32) (σ : Sg) : Option (Int32 × Sg) :=
  bd (f_MO_in x1 (nI 0) (nI 9) σ) fun r1 σ2 =>
  if r1 = (nI 0) then
    some ((-1), σ2)
  else
    bd (f_MO_fault σ2) fun r4 σ5 =>
    if r4 < (nI 0) then
      gd (inb (nI 0) 1385) <|
      lt' (σ5 113 (nI 0).toNatClampNeg) fun v8 =>
      if v8 = (nI 20) then
        some ((-3), σ5)
      else
        bd (f_MO_record σ5) fun r10 σ11 =>
        gd (inb (nI 0) 1385) <|
        lt' (up σ11 113 (nI 0).toNatClampNeg (v8 + (nI 1))) fun σ13 =>
        gd (inb ((nI 9) + v8) 1385) <|
        lt' (up σ13 113 ((nI 9) + v8).toNatClampNeg x1) fun σ15 =>
        gd (inb ((nI 29) + v8) 1385) <|
        lt' (up σ15 113 ((nI 29) + v8).toNatClampNeg (nI 1)) fun σ17 =>
        gd (inb ((nI 69) + v8) 1385) <|
        lt' (up σ17 113 ((nI 69) + v8).toNatClampNeg (σ17 112 5)) fun σ19 =>
        f_MO_submit_91 FU v8 (nI 0) σ19
    else
      some (((-100) - r4), σ5)
def f_MO_withdraw (x1 : Int32) (σ : Sg) : Option (Int32 × Sg) :=
  bd (f_MO_is x1 σ) fun r1 σ2 =>
  if r1 = (nI 0) then
    some ((-1), σ2)
  else
    bd (f_MO_record σ2) fun r4 σ5 =>
    gd (inb ((nI 29) + x1) 1385) <|
    lt' (up σ5 113 ((nI 29) + x1).toNatClampNeg (nI 0)) fun σ7 =>
    bd (f_MO_there σ7) fun r8 σ9 =>
    some (r8, σ9)
def f_MO_join (x1 : Int32) (x2 : Int32) (σ : Sg) : Option (Int32 × Sg) :=
  bd (f_MO_is x1 σ) fun r1 σ2 =>
  if r1 = (nI 0) then
    some ((-1), σ2)
  else
    bd (f_MO_is x2 σ2) fun r4 σ5 =>
    if r4 = (nI 0) then
      some ((-1), σ5)
    else
      if x1 = x2 then
        some ((-2), σ5)
      else
        bd (f_MO_heads σ5) fun r8 σ9 =>
        gd (inb x1 20) <|
        gd (inb x2 20) <|
        if (σ9 117 x1.toNatClampNeg) = (σ9 117 x2.toNatClampNeg) then
          some ((-5), σ9)
        else
          bd (f_MO_record σ9) fun r13 σ14 =>
          gd (inb ((nI 49) + x1) 1385) <|
          gd (inb ((nI 49) + x1) 1385) <|
          lt' (up σ14 113 ((nI 49) + x1).toNatClampNeg ((σ14 113 ((nI 49) + x1).toNatClampNeg) ||| (isl (nI 1) x2))) fun σ17 =>
          gd (inb ((nI 49) + x2) 1385) <|
          gd (inb ((nI 49) + x2) 1385) <|
          lt' (up σ17 113 ((nI 49) + x2).toNatClampNeg ((σ17 113 ((nI 49) + x2).toNatClampNeg) ||| (isl (nI 1) x1))) fun σ20 =>
          bd (f_MO_heads σ20) fun r21 σ22 =>
          gd (inb x1 20) <|
          some ((σ22 117 x1.toNatClampNeg), σ22)
def f_MO_part_41 : Nat → Int32 → Int32 → Sg → Option (Int32 × Sg)
  | 0, _, _, _ => none
  | n9 + 1, x1, x2, σ =>
    if (nI 20) ≤ x2 then
      bd (f_MO_heads σ) fun r2 σ3 =>
      gd (inb x1 20) <|
      some ((σ3 117 x1.toNatClampNeg), σ3)
    else
      gd (inb ((nI 49) + x2) 1385) <|
      gd (inb ((nI 49) + x2) 1385) <|
      lt' (up σ 113 ((nI 49) + x2).toNatClampNeg ((σ 113 ((nI 49) + x2).toNatClampNeg) &&& ((isl (nI 1) x1) ^^^ (-1)))) fun σ7 =>
      f_MO_part_41 n9 x1 (x2 + (nI 1)) σ7
def f_MO_part (x1 : Int32) (σ : Sg) : Option (Int32 × Sg) :=
  bd (f_MO_is x1 σ) fun r1 σ2 =>
  if r1 = (nI 0) then
    some ((-1), σ2)
  else
    gd (inb ((nI 49) + x1) 1385) <|
    if (σ2 113 ((nI 49) + x1).toNatClampNeg) = (nI 0) then
      some ((-5), σ2)
    else
      bd (f_MO_record σ2) fun r6 σ7 =>
      gd (inb ((nI 49) + x1) 1385) <|
      lt' (up σ7 113 ((nI 49) + x1).toNatClampNeg (nI 0)) fun σ9 =>
      f_MO_part_41 FU x1 (nI 0) σ9
def f_MO_vote_255 (x2 : Int32) (x3 : Int32) (x4 : Int32) (x8 : Int32) (x9 : Int32) (x10 : Int32) (x11 : Int32) (σ : Sg) : Option (Int32 × Sg) :=
  bd (f_MO_record σ) fun r1 σ2 =>
  gd (inb x8 1385) <|
  lt' (up σ2 113 x8.toNatClampNeg x9) fun σ4 =>
  gd (inb (x8 + (nI 1)) 1385) <|
  lt' (up σ4 113 (x8 + (nI 1)).toNatClampNeg x10) fun σ6 =>
  gd (inb (x8 + (nI 2)) 1385) <|
  lt' (up σ6 113 (x8 + (nI 2)).toNatClampNeg x11) fun σ8 =>
  if x4 = (-5) then
    if x3 = (-5) then
      if x2 = (-5) then
        some ((nI 0), σ8)
      else
        some ((nI 1), σ8)
    else
      some ((nI 2), σ8)
  else
    some ((nI 3), σ8)
def f_MO_vote_210 (x2 : Int32) (x3 : Int32) (x4 : Int32) (x8 : Int32) (x9 : Int32) (x10 : Int32) (t0 : Int32) (σ : Sg) : Option (Int32 × Sg) :=
  gd (inb x8 1385) <|
  if (σ 113 x8.toNatClampNeg) = x9 then
    gd (inb (x8 + (nI 1)) 1385) <|
    if (σ 113 (x8 + (nI 1)).toNatClampNeg) = x10 then
      gd (inb (x8 + (nI 2)) 1385) <|
      if (σ 113 (x8 + (nI 2)).toNatClampNeg) = t0 then
        some ((-5), σ)
      else
        f_MO_vote_255 x2 x3 x4 x8 x9 x10 t0 σ
    else
      f_MO_vote_255 x2 x3 x4 x8 x9 x10 t0 σ
  else
    f_MO_vote_255 x2 x3 x4 x8 x9 x10 t0 σ
def f_MO_vote_193 (x2 : Int32) (x3 : Int32) (x4 : Int32) (x8 : Int32) (x9 : Int32) (t0 : Int32) (σ : Sg) : Option (Int32 × Sg) :=
  if x4 = (-5) then
    f_MO_vote_210 x2 x3 x4 x8 x9 t0 (nI 0) σ
  else
    f_MO_vote_210 x2 x3 x4 x8 x9 t0 (x4 + (nI 1)) σ
def f_MO_vote_178 (x2 : Int32) (x3 : Int32) (x4 : Int32) (x8 : Int32) (t0 : Int32) (σ : Sg) : Option (Int32 × Sg) :=
  if x3 = (-5) then
    f_MO_vote_193 x2 x3 x4 x8 t0 (nI 0) σ
  else
    f_MO_vote_193 x2 x3 x4 x8 t0 (x3 + (nI 1)) σ
def f_MO_vote_141 (x1 : Int32) (x2 : Int32) (x3 : Int32) (x4 : Int32) (x6 : Int32) (t0 : Int32) (σ : Sg) : Option (Int32 × Sg) :=
  if x6 = (nI 0) then
    if t0 = (nI 0) then
      lt' ((nI 1289) + ((nI 3) * x1)) fun v3 =>
      if x2 = (-5) then
        f_MO_vote_178 x2 x3 x4 v3 (nI 0) σ
      else
        f_MO_vote_178 x2 x3 x4 v3 (x2 + (nI 1)) σ
    else
      some ((-2), σ)
  else
    some ((-2), σ)
def f_MO_vote_124 (x1 : Int32) (x2 : Int32) (x3 : Int32) (x4 : Int32) (x6 : Int32) (σ : Sg) : Option (Int32 × Sg) :=
  if x3 = (-5) then
    f_MO_vote_141 x1 x2 x3 x4 x6 (nI 0) σ
  else
    if x3 = x4 then
      f_MO_vote_141 x1 x2 x3 x4 x6 (nI 1) σ
    else
      f_MO_vote_141 x1 x2 x3 x4 x6 (nI 0) σ
def f_MO_vote_105 (x1 : Int32) (x2 : Int32) (x3 : Int32) (x4 : Int32) (t0 : Int32) (σ : Sg) : Option (Int32 × Sg) :=
  if x2 = (-5) then
    f_MO_vote_124 x1 x2 x3 x4 t0 σ
  else
    if x2 = x3 then
      f_MO_vote_141 x1 x2 x3 x4 t0 (nI 1) σ
    else
      if x2 = x4 then
        f_MO_vote_141 x1 x2 x3 x4 t0 (nI 1) σ
      else
        f_MO_vote_124 x1 x2 x3 x4 t0 σ
def f_MO_vote_87 (x1 : Int32) (x2 : Int32) (x3 : Int32) (x4 : Int32) (σ : Sg) : Option (Int32 × Sg) :=
  if x3 = (-5) then
    if x4 = (-5) then
      f_MO_vote_105 x1 x2 x3 x4 (nI 0) σ
    else
      f_MO_vote_105 x1 x2 x3 x4 (nI 1) σ
  else
    f_MO_vote_105 x1 x2 x3 x4 (nI 0) σ
def f_MO_vote_49 (x1 : Int32) (x2 : Int32) (x3 : Int32) (x4 : Int32) (t0 : Int32) (σ : Sg) : Option (Int32 × Sg) :=
  bd (f_MO_in x1 (nI 0) (nI 11) σ) fun r1 σ2 =>
  if r1 = (nI 0) then
    some ((-1), σ2)
  else
    if t0 = (nI 0) then
      some ((-1), σ2)
    else
      if x2 = (-5) then
        if x3 = (-5) then
          if x4 = (-5) then
            f_MO_vote_87 x1 x2 x3 x4 σ2
          else
            f_MO_vote_105 x1 x2 x3 x4 (nI 1) σ2
        else
          f_MO_vote_105 x1 x2 x3 x4 (nI 1) σ2
      else
        f_MO_vote_87 x1 x2 x3 x4 σ2
def f_MO_vote_28 (x1 : Int32) (x2 : Int32) (x3 : Int32) (x4 : Int32) (σ : Sg) : Option (Int32 × Sg) :=
  if x4 = (-5) then
    f_MO_vote_49 x1 x2 x3 x4 (nI 1) σ
  else
    bd (f_MO_is x4 σ) fun r2 σ3 =>
    if r2 = (nI 0) then
      f_MO_vote_49 x1 x2 x3 x4 (nI 0) σ3
    else
      f_MO_vote_49 x1 x2 x3 x4 (nI 1) σ3
def f_MO_vote_14 (x1 : Int32) (x2 : Int32) (x3 : Int32) (x4 : Int32) (σ : Sg) : Option (Int32 × Sg) :=
  if x3 = (-5) then
    f_MO_vote_28 x1 x2 x3 x4 σ
  else
    bd (f_MO_is x3 σ) fun r2 σ3 =>
    if r2 = (nI 0) then
      f_MO_vote_49 x1 x2 x3 x4 (nI 0) σ3
    else
      f_MO_vote_28 x1 x2 x3 x4 σ3
def f_MO_vote (x1 : Int32) (x2 : Int32) (x3 : Int32) (x4 : Int32) (σ : Sg) : Option (Int32 × Sg) :=
  if x2 = (-5) then
    f_MO_vote_14 x1 x2 x3 x4 σ
  else
    bd (f_MO_is x2 σ) fun r2 σ3 =>
    if r2 = (nI 0) then
      f_MO_vote_49 x1 x2 x3 x4 (nI 0) σ3
    else
      f_MO_vote_14 x1 x2 x3 x4 σ3
def f_MO_score (x1 : Int32) (x2 : Int32) (x3 : Int32) (σ : Sg) : Option (Int32 × Sg) :=
  bd (f_MO_in x1 (nI 0) (nI 2) σ) fun r1 σ2 =>
  if r1 = (nI 0) then
    some ((-1), σ2)
  else
    bd (f_MO_is x2 σ2) fun r4 σ5 =>
    if r4 = (nI 0) then
      some ((-1), σ5)
    else
      bd (f_MO_in x3 (nI 0) (nI 10) σ5) fun r7 σ8 =>
      if r7 = (nI 0) then
        some ((-2), σ8)
      else
        lt' (((nI 1325) + ((nI 20) * x1)) + x2) fun v10 =>
        gd (inb v10 1385) <|
        if (σ8 113 v10.toNatClampNeg) = (x3 + (nI 1)) then
          some ((-5), σ8)
        else
          bd (f_MO_record σ8) fun r13 σ14 =>
          gd (inb v10 1385) <|
          lt' (up σ14 113 v10.toNatClampNeg (x3 + (nI 1))) fun σ16 =>
          bd (f_MO_heads σ16) fun r17 σ18 =>
          gd (inb x2 20) <|
          bd (f_MO_rank x1 (σ18 117 x2.toNatClampNeg) σ18) fun r20 σ21 =>
          some (r20, σ21)
def f_MO_set_21 (x1 : Int32) (x2 : Int32) (t0 : Int32) (t1 : Int32) (t2 : Int32) (σ : Sg) : Option (Int32 × Sg) :=
  bd (f_MO_in t2 t1 t0 σ) fun r1 σ2 =>
  if r1 = (nI 0) then
    some ((-2), σ2)
  else
    gd (inb ((nI 1) + x1) 1385) <|
    lt' (σ2 113 ((nI 1) + x1).toNatClampNeg) fun v5 =>
    if v5 = x2 then
      some ((-5), σ2)
    else
      bd (f_MO_record σ2) fun r7 σ8 =>
      gd (inb ((nI 1) + x1) 1385) <|
      lt' (up σ8 113 ((nI 1) + x1).toNatClampNeg x2) fun σ10 =>
      some (v5, σ10)
def f_MO_set (x1 : Int32) (x2 : Int32) (σ : Sg) : Option (Int32 × Sg) :=
  bd (f_MO_in x1 (nI 0) (nI 2) σ) fun r1 σ2 =>
  if r1 = (nI 0) then
    some ((-2), σ2)
  else
    if x1 = (nI 1) then
      f_MO_set_21 x1 x2 (nI 5) (nI 0) x2 σ2
    else
      f_MO_set_21 x1 x2 (nI 1) (nI 0) x2 σ2
def f_MO_prize (x1 : Int32) (x2 : Int32) (σ : Sg) : Option (Int32 × Sg) :=
  bd (f_MO_in x1 (nI 1) (nI 5) σ) fun r1 σ2 =>
  if r1 = (nI 0) then
    some ((-2), σ2)
  else
    bd (f_MO_in x2 (nI 0) (nI 999) σ2) fun r4 σ5 =>
    if r4 = (nI 0) then
      some ((-2), σ5)
    else
      gd (inb (((nI 4) + x1) - (nI 1)) 1385) <|
      lt' (σ5 113 (((nI 4) + x1) - (nI 1)).toNatClampNeg) fun v8 =>
      if v8 = x2 then
        some ((-5), σ5)
      else
        bd (f_MO_record σ5) fun r10 σ11 =>
        gd (inb (((nI 4) + x1) - (nI 1)) 1385) <|
        lt' (up σ11 113 (((nI 4) + x1) - (nI 1)).toNatClampNeg x2) fun σ13 =>
        some (v8, σ13)
def f_MO_type (x1 : Int32) (σ : Sg) : Option (Int32 × Sg) :=
  if (σ 112 5) = (nI 60) then
    some ((-3), σ)
  else
    gd (inb (σ 112 5) 60) <|
    lt' (up σ 116 (σ 112 5).toNatClampNeg x1) fun σ3 =>
    lt' (up σ3 112 5 ((σ3 112 5) + (nI 1))) fun σ4 =>
    some ((σ4 112 5), σ4)
def f_MO_clearText (σ : Sg) : Option (Int32 × Sg) :=
  lt' (σ 112 5) fun v1 =>
  lt' (up σ 112 5 (nI 0)) fun σ2 =>
  some (v1, σ2)
def f_MO_undo_22 : Nat → Int32 → Sg → Option (Int32 × Sg)
  | 0, _, _ => none
  | n9 + 1, x1, σ =>
    if (nI 1385) ≤ x1 then
      some ((σ 112 4), σ)
    else
      gd (inb (((nI 1385) * (σ 112 4)) + x1) 5540) <|
      gd (inb x1 1385) <|
      lt' (up σ 113 x1.toNatClampNeg (σ 115 (((nI 1385) * (σ 112 4)) + x1).toNatClampNeg)) fun σ4 =>
      f_MO_undo_22 n9 (x1 + (nI 1)) σ4
def f_MO_undo (σ : Sg) : Option (Int32 × Sg) :=
  if (σ 112 4) = (nI 0) then
    some ((-5), σ)
  else
    lt' (up σ 112 4 ((σ 112 4) - (nI 1))) fun σ2 =>
    f_MO_undo_22 FU (nI 0) σ2
def f_MO_keep_2 : Nat → Int32 → Sg → Option (Int32 × Sg)
  | 0, _, _ => none
  | n9 + 1, x1, σ =>
    if (nI 1385) ≤ x1 then
      lt' (up σ 112 6 (nI 1)) fun σ2 =>
      bd (f_MO_there σ2) fun r3 σ4 =>
      some (r3, σ4)
    else
      gd (inb x1 1385) <|
      gd (inb x1 1385) <|
      lt' (up σ 114 x1.toNatClampNeg (σ 113 x1.toNatClampNeg)) fun σ7 =>
      f_MO_keep_2 n9 (x1 + (nI 1)) σ7
def f_MO_keep (σ : Sg) : Option (Int32 × Sg) :=
  f_MO_keep_2 FU (nI 0) σ
def f_MO_restore_16 : Nat → Int32 → Sg → Option (Int32 × Sg)
  | 0, _, _ => none
  | n9 + 1, x1, σ =>
    if (nI 1385) ≤ x1 then
      bd (f_MO_there σ) fun r2 σ3 =>
      some (r2, σ3)
    else
      gd (inb x1 1385) <|
      gd (inb x1 1385) <|
      lt' (up σ 113 x1.toNatClampNeg (σ 114 x1.toNatClampNeg)) fun σ6 =>
      f_MO_restore_16 n9 (x1 + (nI 1)) σ6
def f_MO_restore (σ : Sg) : Option (Int32 × Sg) :=
  if (σ 112 6) = (nI 0) then
    some ((-5), σ)
  else
    bd (f_MO_record σ) fun r2 σ3 =>
    f_MO_restore_16 FU (nI 0) σ3
def f_MO_links_4 : Nat → Int32 → Int32 → Int32 → Sg → Option (Int32 × Sg)
  | 0, _, _, _, _ => none
  | n9 + 1, x1, x2, x3, σ =>
    gd (inb (nI 0) 1385) <|
    if (σ 113 (nI 0).toNatClampNeg) ≤ x3 then
      some (x2, σ)
    else
      bd (f_MO_is x3 σ) fun r3 σ4 =>
      if r3 = (nI 0) then
        lt' (x2 + (nI 0)) fun v6 =>
        f_MO_links_4 n9 x1 v6 (x3 + (nI 1)) σ4
      else
        bd (f_MO_isLinked x1 x3 σ4) fun r7 σ8 =>
        if r7 = (nI 0) then
          lt' (x2 + (nI 0)) fun v10 =>
          f_MO_links_4 n9 x1 v10 (x3 + (nI 1)) σ8
        else
          lt' (x2 + (nI 1)) fun v11 =>
          f_MO_links_4 n9 x1 v11 (x3 + (nI 1)) σ8
def f_MO_links (x1 : Int32) (σ : Sg) : Option (Int32 × Sg) :=
  f_MO_links_4 FU x1 (nI 0) (nI 0) σ
def f_MO_stands_4 : Nat → Int32 → Int32 → Int32 → Sg → Option (Int32 × Sg)
  | 0, _, _, _, _ => none
  | n9 + 1, x1, x2, x3, σ =>
    if (nI 36) ≤ x3 then
      some (x2, σ)
    else
      gd (inb ((nI 1289) + x3) 1385) <|
      if (σ 113 ((nI 1289) + x3).toNatClampNeg) = (x1 + (nI 1)) then
        lt' (x2 + (nI 1)) fun v5 =>
        f_MO_stands_4 n9 x1 v5 (x3 + (nI 1)) σ
      else
        lt' (x2 + (nI 0)) fun v4 =>
        f_MO_stands_4 n9 x1 v4 (x3 + (nI 1)) σ
def f_MO_stands (x1 : Int32) (σ : Sg) : Option (Int32 × Sg) :=
  f_MO_stands_4 FU x1 (nI 0) (nI 0) σ
def f_MO_caption_47 (x1 : Int32) (t0 : Int32) (σ : Sg) : Option (Int32 × Sg) :=
  gd (inb (t0 + x1) 1385) <|
  some ((σ 113 (t0 + x1).toNatClampNeg), σ)
def f_MO_caption_32 (x1 : Int32) (x2 : Int32) (σ : Sg) : Option (Int32 × Sg) :=
  if x2 = (nI 0) then
    f_MO_caption_47 x1 (nI 9) σ
  else
    f_MO_caption_47 x1 (nI 69) σ
def f_MO_caption_61 (x1 : Int32) (x2 : Int32) (σ : Sg) : Option (Int32 × Sg) :=
  bd (f_MO_takesCores σ) fun r1 σ2 =>
  if x2 = (nI 3) then
    gd (inb x1 20) <|
    some ((σ2 130 x1.toNatClampNeg), σ2)
  else
    bd (f_MO_links x1 σ2) fun r4 σ5 =>
    some (r4, σ5)
def f_MO_caption (x1 : Int32) (x2 : Int32) (σ : Sg) : Option (Int32 × Sg) :=
  bd (f_MO_is x1 σ) fun r1 σ2 =>
  if r1 = (nI 0) then
    some ((-1), σ2)
  else
    bd (f_MO_in x2 (nI 0) (nI 6) σ2) fun r4 σ5 =>
    if r4 = (nI 0) then
      some ((-2), σ5)
    else
      if x2 = (nI 0) then
        f_MO_caption_32 x1 x2 σ5
      else
        if x2 = (nI 2) then
          f_MO_caption_32 x1 x2 σ5
        else
          if x2 = (nI 3) then
            f_MO_caption_61 x1 x2 σ5
          else
            if x2 = (nI 4) then
              f_MO_caption_61 x1 x2 σ5
            else
              bd (f_MO_works σ5) fun r11 σ12 =>
              if x2 = (nI 1) then
                gd (inb x1 20) <|
                some ((σ12 117 x1.toNatClampNeg), σ12)
              else
                if x2 = (nI 5) then
                  gd (inb x1 20) <|
                  some ((σ12 127 x1.toNatClampNeg), σ12)
                else
                  bd (f_MO_stands x1 σ12) fun r15 σ16 =>
                  some (r15, σ16)
def f_MO_letter (x1 : Int32) (x2 : Int32) (σ : Sg) : Option (Int32 × Sg) :=
  bd (f_MO_is x1 σ) fun r1 σ2 =>
  if r1 = (nI 0) then
    some ((-1), σ2)
  else
    if (nI 0) ≤ x2 then
      gd (inb ((nI 69) + x1) 1385) <|
      if (σ2 113 ((nI 69) + x1).toNatClampNeg) ≤ x2 then
        some ((-5), σ2)
      else
        bd (f_MO_sign x1 x2 σ2) fun r7 σ8 =>
        some (r7, σ8)
    else
      some ((-2), σ2)
def f_MO_members_4 : Nat → Int32 → Int32 → Int32 → Sg → Option (Int32 × Sg)
  | 0, _, _, _, _ => none
  | n9 + 1, x1, x2, x3, σ =>
    gd (inb (nI 0) 1385) <|
    if (σ 113 (nI 0).toNatClampNeg) ≤ x3 then
      some (x2, σ)
    else
      gd (inb x3 20) <|
      if (σ 117 x3.toNatClampNeg) = x1 then
        lt' (x2 + (nI 1)) fun v6 =>
        f_MO_members_4 n9 x1 v6 (x3 + (nI 1)) σ
      else
        lt' (x2 + (nI 0)) fun v5 =>
        f_MO_members_4 n9 x1 v5 (x3 + (nI 1)) σ
def f_MO_members (x1 : Int32) (σ : Sg) : Option (Int32 × Sg) :=
  f_MO_members_4 FU x1 (nI 0) (nI 0) σ
def f_MO_group (x1 : Int32) (x2 : Int32) (σ : Sg) : Option (Int32 × Sg) :=
  bd (f_MO_is x1 σ) fun r1 σ2 =>
  if r1 = (nI 0) then
    some ((-1), σ2)
  else
    bd (f_MO_in x2 (nI 0) (nI 7) σ2) fun r4 σ5 =>
    if r4 = (nI 0) then
      some ((-2), σ5)
    else
      bd (f_MO_works σ5) fun r7 σ8 =>
      gd (inb x1 20) <|
      lt' (σ8 117 x1.toNatClampNeg) fun v10 =>
      if (nI 4) ≤ x2 then
        if x2 = (nI 4) then
          bd (f_MO_tally v10 σ8) fun r21 σ22 =>
          some (((nI 1000) + r21), σ22)
        else
          if x2 = (nI 5) then
            gd (inb v10 20) <|
            some ((σ8 125 v10.toNatClampNeg), σ8)
          else
            if x2 = (nI 6) then
              bd (f_MO_getsGroup v10 σ8) fun r18 σ19 =>
              some (r18, σ19)
            else
              gd (inb v10 20) <|
              if (nI 0) ≤ (σ8 121 v10.toNatClampNeg) then
                gd (inb v10 20) <|
                some ((σ8 121 v10.toNatClampNeg), σ8)
              else
                some ((-5), σ8)
      else
        if x2 = (nI 0) then
          bd (f_MO_members v10 σ8) fun r29 σ30 =>
          some (r29, σ30)
        else
          if x2 = (nI 1) then
            gd (inb v10 20) <|
            some ((σ8 118 v10.toNatClampNeg), σ8)
          else
            if x2 = (nI 2) then
              gd (inb v10 20) <|
              some ((σ8 119 v10.toNatClampNeg), σ8)
            else
              gd (inb v10 20) <|
              some ((σ8 120 v10.toNatClampNeg), σ8)
def f_MO_judged (x1 : Int32) (x2 : Int32) (x3 : Int32) (σ : Sg) : Option (Int32 × Sg) :=
  bd (f_MO_in x1 (nI 0) (nI 2) σ) fun r1 σ2 =>
  if r1 = (nI 0) then
    some ((-1), σ2)
  else
    bd (f_MO_is x2 σ2) fun r4 σ5 =>
    if r4 = (nI 0) then
      some ((-1), σ5)
    else
      bd (f_MO_in x3 (nI 0) (nI 2) σ5) fun r7 σ8 =>
      if r7 = (nI 0) then
        some ((-2), σ8)
      else
        gd (inb (((nI 1325) + ((nI 20) * x1)) + x2) 1385) <|
        lt' (σ8 113 (((nI 1325) + ((nI 20) * x1)) + x2).toNatClampNeg) fun v11 =>
        if x3 = (nI 0) then
          if v11 = (nI 0) then
            some ((-5), σ8)
          else
            some ((v11 - (nI 1)), σ8)
        else
          bd (f_MO_heads σ8) fun r13 σ14 =>
          if x3 = (nI 1) then
            gd (inb x2 20) <|
            bd (f_MO_most x1 (σ14 117 x2.toNatClampNeg) σ14) fun r20 σ21 =>
            some (r20, σ21)
          else
            gd (inb x2 20) <|
            bd (f_MO_rank x1 (σ14 117 x2.toNatClampNeg) σ14) fun r17 σ18 =>
            some (r17, σ18)
def f_MO_ballot_65 (t0 : Int32) (σ : Sg) : Option (Int32 × Sg) :=
  if (nI 0) ≤ t0 then
    some (t0, σ)
  else
    some ((-5), σ)
def f_MO_ballot (x1 : Int32) (x2 : Int32) (x3 : Int32) (σ : Sg) : Option (Int32 × Sg) :=
  bd (f_MO_in x1 (nI 0) (nI 11) σ) fun r1 σ2 =>
  if r1 = (nI 0) then
    some ((-1), σ2)
  else
    bd (f_MO_in x2 (nI 0) (nI 2) σ2) fun r4 σ5 =>
    if r4 = (nI 0) then
      some ((-2), σ5)
    else
      bd (f_MO_heads σ5) fun r7 σ8 =>
      bd (f_MO_counts σ8) fun r9 σ10 =>
      if x3 = (nI 0) then
        gd (inb (((nI 1289) + ((nI 3) * x1)) + x2) 1385) <|
        f_MO_ballot_65 ((σ10 113 (((nI 1289) + ((nI 3) * x1)) + x2).toNatClampNeg) - (nI 1)) σ10
      else
        gd (inb (((nI 3) * x1) + x2) 36) <|
        f_MO_ballot_65 (σ10 128 (((nI 3) * x1) + x2).toNatClampNeg) σ10
def f_MO_ranked (x1 : Int32) (σ : Sg) : Option (Int32 × Sg) :=
  if (nI 0) ≤ x1 then
    bd (f_MO_works σ) fun r2 σ3 =>
    if (σ3 112 23) ≤ x1 then
      some ((-5), σ3)
    else
      gd (inb x1 20) <|
      some ((σ3 126 x1.toNatClampNeg), σ3)
  else
    some ((-2), σ)
def f_MO_round (x1 : Int32) (x2 : Int32) (σ : Sg) : Option (Int32 × Sg) :=
  if x1 < (nI 0) then
    some ((-2), σ)
  else
    bd (f_MO_in x2 (nI 0) (nI 2) σ) fun r2 σ3 =>
    if r2 = (nI 0) then
      some ((-2), σ3)
    else
      bd (f_MO_works σ3) fun r5 σ6 =>
      if x1 < ((σ6 112 23) - (nI 1)) then
        if x2 = (nI 0) then
          gd (inb x1 20) <|
          some ((σ6 122 x1.toNatClampNeg), σ6)
        else
          if x2 = (nI 1) then
            gd (inb x1 20) <|
            some ((σ6 123 x1.toNatClampNeg), σ6)
          else
            gd (inb x1 20) <|
            some ((σ6 124 x1.toNatClampNeg), σ6)
      else
        some ((-5), σ6)
def f_MO_distance (x1 : Int32) (x2 : Int32) (σ : Sg) : Option (Int32 × Sg) :=
  bd (f_MO_is x1 σ) fun r1 σ2 =>
  if r1 = (nI 0) then
    some ((-1), σ2)
  else
    bd (f_MO_is x2 σ2) fun r4 σ5 =>
    if r4 = (nI 0) then
      some ((-1), σ5)
    else
      bd (f_MO_takesCores σ5) fun r7 σ8 =>
      bd (f_MO_far x1 x2 σ8) fun r9 σ10 =>
      some (r9, σ10)
def f_MO_near_51 (K34 : Int32 → Int32 → Int32 → Int32 → Sg → Option (Int32 × Sg)) : Nat → Int32 → Int32 → Int32 → Int32 → Int32 → Sg → Option (Int32 × Sg)
  | 0, _, _, _, _, _, _ => none
  | n9 + 1, x2, x3, x4, x5, x6, σ =>
    gd (inb (nI 0) 1385) <|
    if (σ 113 (nI 0).toNatClampNeg) ≤ x6 then
      K34 x2 x3 x4 (x5 + (nI 1)) σ
    else
      gd (inb x5 20) <|
      gd (inb x6 20) <|
      lt' ((σ 130 x5.toNatClampNeg) - (σ 130 x6.toNatClampNeg)) fun v5 =>
      bd (f_MO_is x5 σ) fun r6 σ7 =>
      if r6 = (nI 0) then
        f_MO_near_51 K34 n9 x2 x3 x4 x5 (x6 + (nI 1)) σ7
      else
        bd (f_MO_is x6 σ7) fun r9 σ10 =>
        if r9 = (nI 0) then
          f_MO_near_51 K34 n9 x2 x3 x4 x5 (x6 + (nI 1)) σ10
        else
          gd (inb x5 20) <|
          gd (inb x6 20) <|
          if (σ10 117 x5.toNatClampNeg) = (σ10 117 x6.toNatClampNeg) then
            f_MO_near_51 K34 n9 x2 x3 x4 x5 (x6 + (nI 1)) σ10
          else
            bd (f_MO_in v5 (-x4) x4 σ10) fun r15 σ16 =>
            if r15 = (nI 0) then
              f_MO_near_51 K34 n9 x2 x3 x4 x5 (x6 + (nI 1)) σ16
            else
              bd (f_MO_far x5 x6 σ16) fun r18 σ19 =>
              if r18 = x4 then
                if x3 = (nI 0) then
                  if x2 = (nI 0) then
                    some (x5, σ19)
                  else
                    if x2 = (nI 1) then
                      some (x6, σ19)
                    else
                      some (x4, σ19)
                else
                  f_MO_near_51 K34 n9 x2 (x3 + (-1)) x4 x5 (x6 + (nI 1)) σ19
              else
                f_MO_near_51 K34 n9 x2 x3 x4 x5 (x6 + (nI 1)) σ19
def f_MO_near_34 (K25 : Int32 → Int32 → Int32 → Sg → Option (Int32 × Sg)) : Nat → Int32 → Int32 → Int32 → Int32 → Sg → Option (Int32 × Sg)
  | 0, _, _, _, _, _ => none
  | n9 + 1, x2, x3, x4, x5, σ =>
    gd (inb (nI 0) 1385) <|
    if (σ 113 (nI 0).toNatClampNeg) ≤ x5 then
      K25 x2 x3 (x4 + (nI 1)) σ
    else
      lt' (x5 + (nI 1)) fun v3 =>
      f_MO_near_51 (fun x2 x3 x4 x5 σ => f_MO_near_34 K25 n9 x2 x3 x4 x5 σ) FU x2 x3 x4 x5 v3 σ
def f_MO_near_25 : Nat → Int32 → Int32 → Int32 → Sg → Option (Int32 × Sg)
  | 0, _, _, _, _ => none
  | n9 + 1, x2, x3, x4, σ =>
    if (nI 3) < x4 then
      some ((-5), σ)
    else
      f_MO_near_34 (fun x2 x3 x4 σ => f_MO_near_25 n9 x2 x3 x4 σ) FU x2 x3 x4 (nI 0) σ
def f_MO_near (x1 : Int32) (x2 : Int32) (σ : Sg) : Option (Int32 × Sg) :=
  if x1 < (nI 0) then
    some ((-2), σ)
  else
    bd (f_MO_in x2 (nI 0) (nI 2) σ) fun r2 σ3 =>
    if r2 = (nI 0) then
      some ((-2), σ3)
    else
      bd (f_MO_heads σ3) fun r5 σ6 =>
      f_MO_near_25 FU x2 x1 (nI 1) σ6
def f_MO_author_40 : Nat → Int32 → Int32 → Int32 → Int32 → Int32 → Int32 → Sg → Option (Int32 × Sg)
  | 0, _, _, _, _, _, _, _ => none
  | n9 + 1, x1, x2, x3, x4, x5, x6, σ =>
    gd (inb (nI 0) 1385) <|
    if (σ 113 (nI 0).toNatClampNeg) ≤ x6 then
      if x2 = (nI 0) then
        some (x3, σ)
      else
        if x2 = (nI 1) then
          some (x4, σ)
        else
          some (x5, σ)
    else
      bd (f_MO_is x6 σ) fun r5 σ6 =>
      if r5 = (nI 0) then
        f_MO_author_40 n9 x1 x2 x3 x4 x5 (x6 + (nI 1)) σ6
      else
        gd (inb ((nI 9) + x6) 1385) <|
        if (σ6 113 ((nI 9) + x6).toNatClampNeg) = x1 then
          gd (inb x6 20) <|
          gd (inb (σ6 117 x6.toNatClampNeg) 20) <|
          lt' (σ6 125 (σ6 117 x6.toNatClampNeg).toNatClampNeg) fun v12 =>
          gd (inb x6 20) <|
          lt' (x4 + (σ6 127 x6.toNatClampNeg)) fun v14 =>
          if x5 = (-5) then
            f_MO_author_40 n9 x1 x2 (x3 + (nI 1)) v14 v12 (x6 + (nI 1)) σ6
          else
            if x5 ≤ v12 then
              f_MO_author_40 n9 x1 x2 (x3 + (nI 1)) v14 x5 (x6 + (nI 1)) σ6
            else
              f_MO_author_40 n9 x1 x2 (x3 + (nI 1)) v14 v12 (x6 + (nI 1)) σ6
        else
          f_MO_author_40 n9 x1 x2 x3 x4 x5 (x6 + (nI 1)) σ6
def f_MO_author (x1 : Int32) (x2 : Int32) (σ : Sg) : Option (Int32 × Sg) :=
  bd (f_MO_in x1 (nI 0) (nI 9) σ) fun r1 σ2 =>
  if r1 = (nI 0) then
    some ((-1), σ2)
  else
    bd (f_MO_in x2 (nI 0) (nI 2) σ2) fun r4 σ5 =>
    if r4 = (nI 0) then
      some ((-2), σ5)
    else
      bd (f_MO_works σ5) fun r7 σ8 =>
      f_MO_author_40 FU x1 x2 (nI 0) (nI 0) (-5) (nI 0) σ8
def f_MO_allLinks_12 (K4 : Int32 → Int32 → Sg → Option (Int32 × Sg)) : Nat → Int32 → Int32 → Int32 → Sg → Option (Int32 × Sg)
  | 0, _, _, _, _ => none
  | n9 + 1, x1, x2, x3, σ =>
    if x2 ≤ x3 then
      K4 x1 (x2 + (nI 1)) σ
    else
      bd (f_MO_isLinked x2 x3 σ) fun r2 σ3 =>
      if r2 = (nI 0) then
        lt' (x1 + (nI 0)) fun v5 =>
        f_MO_allLinks_12 K4 n9 v5 x2 (x3 + (nI 1)) σ3
      else
        lt' (x1 + (nI 1)) fun v6 =>
        f_MO_allLinks_12 K4 n9 v6 x2 (x3 + (nI 1)) σ3
def f_MO_allLinks_4 : Nat → Int32 → Int32 → Sg → Option (Int32 × Sg)
  | 0, _, _, _ => none
  | n9 + 1, x1, x2, σ =>
    if (nI 20) ≤ x2 then
      some (x1, σ)
    else
      f_MO_allLinks_12 (fun x1 x2 σ => f_MO_allLinks_4 n9 x1 x2 σ) FU x1 x2 (nI 0) σ
def f_MO_allLinks (σ : Sg) : Option (Int32 × Sg) :=
  f_MO_allLinks_4 FU (nI 0) (nI 0) σ
def f_MO_over_123 (K42 : Int32 → Int32 → Int32 → Sg → Option (Int32 × Sg)) (x1 : Int32) (x2 : Int32) (x3 : Int32) (t0 : Int32) (σ : Sg) : Option (Int32 × Sg) :=
  if x1 = (nI 5) then
    gd (inb x3 20) <|
    gd (inb (σ 126 x3.toNatClampNeg) 20) <|
    lt' (x2 + (σ 118 (σ 126 x3.toNatClampNeg).toNatClampNeg)) fun v14 =>
    K42 x1 v14 (x3 + (nI 1)) σ
  else
    if x1 = (nI 6) then
      gd (inb x3 20) <|
      bd (f_MO_getsGroup (σ 126 x3.toNatClampNeg) σ) fun r9 σ10 =>
      lt' (x2 + r9) fun v11 =>
      K42 x1 v11 (x3 + (nI 1)) σ10
    else
      if x1 = (nI 10) then
        if t0 = (nI 0) then
          lt' (x2 + (nI 0)) fun v6 =>
          K42 x1 v6 (x3 + (nI 1)) σ
        else
          lt' (x2 + (nI 1)) fun v7 =>
          K42 x1 v7 (x3 + (nI 1)) σ
      else
        lt' (x2 + (nI 0)) fun v4 =>
        K42 x1 v4 (x3 + (nI 1)) σ
def f_MO_over_81 (K42 : Int32 → Int32 → Int32 → Sg → Option (Int32 × Sg)) (x1 : Int32) (x2 : Int32) (x3 : Int32) (σ : Sg) : Option (Int32 × Sg) :=
  if (σ 112 23) ≤ (x3 + (nI 1)) then
    f_MO_over_123 K42 x1 x2 x3 (nI 0) σ
  else
    gd (inb x3 20) <|
    gd (inb (σ 126 x3.toNatClampNeg) 20) <|
    gd (inb (x3 + (nI 1)) 20) <|
    gd (inb (σ 126 (x3 + (nI 1)).toNatClampNeg) 20) <|
    if (σ 125 (σ 126 x3.toNatClampNeg).toNatClampNeg) = (σ 125 (σ 126 (x3 + (nI 1)).toNatClampNeg).toNatClampNeg) then
      f_MO_over_123 K42 x1 x2 x3 (nI 1) σ
    else
      f_MO_over_123 K42 x1 x2 x3 (nI 0) σ
def f_MO_over_42 : Nat → Int32 → Int32 → Int32 → Sg → Option (Int32 × Sg)
  | 0, _, _, _, _ => none
  | n9 + 1, x1, x2, x3, σ =>
    if (σ 112 23) ≤ x3 then
      some (x2, σ)
    else
      if x3 ≤ (nI 0) then
        f_MO_over_81 (fun x1 x2 x3 σ => f_MO_over_42 n9 x1 x2 x3 σ) x1 x2 x3 σ
      else
        gd (inb x3 20) <|
        gd (inb (σ 126 x3.toNatClampNeg) 20) <|
        gd (inb (x3 - (nI 1)) 20) <|
        gd (inb (σ 126 (x3 - (nI 1)).toNatClampNeg) 20) <|
        if (σ 125 (σ 126 x3.toNatClampNeg).toNatClampNeg) = (σ 125 (σ 126 (x3 - (nI 1)).toNatClampNeg).toNatClampNeg) then
          f_MO_over_123 (fun x1 x2 x3 σ => f_MO_over_42 n9 x1 x2 x3 σ) x1 x2 x3 (nI 1) σ
        else
          f_MO_over_81 (fun x1 x2 x3 σ => f_MO_over_42 n9 x1 x2 x3 σ) x1 x2 x3 σ
def f_MO_over_4 : Nat → Int32 → Int32 → Int32 → Sg → Option (Int32 × Sg)
  | 0, _, _, _, _ => none
  | n9 + 1, x1, x2, x3, σ =>
    if (nI 12) ≤ x3 then
      f_MO_over_42 FU x1 x2 (nI 0) σ
    else
      if x1 = (nI 4) then
        gd (inb ((nI 3) * x3) 36) <|
        if (σ 128 ((nI 3) * x3).toNatClampNeg) < (nI 0) then
          lt' (x2 + (nI 0)) fun v5 =>
          f_MO_over_4 n9 x1 v5 (x3 + (nI 1)) σ
        else
          lt' (x2 + (nI 1)) fun v6 =>
          f_MO_over_4 n9 x1 v6 (x3 + (nI 1)) σ
      else
        f_MO_over_42 FU x1 x2 (nI 0) σ
def f_MO_over (x1 : Int32) (σ : Sg) : Option (Int32 × Sg) :=
  f_MO_over_4 FU x1 (nI 0) (nI 0) σ
def f_MO_count_46 (x1 : Int32) (σ : Sg) : Option (Int32 × Sg) :=
  if x1 = (nI 0) then
    bd (f_MO_there σ) fun r6 σ7 =>
    some (r6, σ7)
  else
    if x1 = (nI 1) then
      gd (inb (nI 0) 1385) <|
      some ((σ 113 (nI 0).toNatClampNeg), σ)
    else
      bd (f_MO_allLinks σ) fun r3 σ4 =>
      some (r3, σ4)
def f_MO_count (x1 : Int32) (σ : Sg) : Option (Int32 × Sg) :=
  bd (f_MO_in x1 (nI 21) (nI 25) σ) fun r1 σ2 =>
  if r1 = (nI 0) then
    bd (f_MO_in x1 (nI 0) (nI 12) σ2) fun r4 σ5 =>
    if r4 = (nI 0) then
      some ((-2), σ5)
    else
      if x1 < (nI 2) then
        f_MO_count_46 x1 σ5
      else
        if x1 = (nI 3) then
          f_MO_count_46 x1 σ5
        else
          bd (f_MO_in x1 (nI 7) (nI 9) σ5) fun r9 σ10 =>
          if r9 = (nI 0) then
            if x1 ≤ (nI 10) then
              bd (f_MO_works σ10) fun r13 σ14 =>
              if x1 = (nI 2) then
                some ((σ14 112 23), σ14)
              else
                bd (f_MO_over x1 σ14) fun r16 σ17 =>
                some (r16, σ17)
            else
              if x1 = (nI 11) then
                some ((σ10 112 4), σ10)
              else
                some ((σ10 112 5), σ10)
          else
            gd (inb (((nI 1) + x1) - (nI 7)) 1385) <|
            some ((σ10 113 (((nI 1) + x1) - (nI 7)).toNatClampNeg), σ10)
  else
    gd (inb (((nI 4) + x1) - (nI 21)) 1385) <|
    some ((σ2 113 (((nI 4) + x1) - (nI 21)).toNatClampNeg), σ2)

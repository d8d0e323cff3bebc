def X12_lights_22 (x1 : Int32) (x2 : Int32) (y1 : Int32) (σ : Mem) : Option (Int32 × Mem) :=
  bd (pu σ 399 0 y1) fun σ22 =>
  if (σ22 399 0) = 0 then
    bd2 (X12_doesLight x1 x2 σ22) fun r35 σ35 =>
    if r35 = 0 then
      bd (gb (0 : Int32)) fun _ =>
      some ((0 : Int32), σ35)
    else
      bd (gb (1 : Int32)) fun _ =>
      some ((1 : Int32), σ35)
  else
    bd (gb (0 : Int32)) fun _ =>
    some ((0 : Int32), σ22)
def X12_lights_17 (x1 : Int32) (x2 : Int32) (σ : Mem) : Option (Int32 × Mem) :=
  X12_lights_22 x1 x2 (1 : Int32) σ
def X12_lights (x1 : Int32) (x2 : Int32) (σ : Mem) : Option (Int32 × Mem) :=
  bd (X12_isWalker σ x1) fun r3 =>
  if r3 = 0 then
    X12_lights_17 x1 x2 σ
  else
    bd (X12_isPane σ x2) fun r11 =>
    if r11 = 0 then
      X12_lights_17 x1 x2 σ
    else
      X12_lights_22 x1 x2 (0 : Int32) σ
def X12_arePanes (x1 : Int32) (x2 : Int32) (σ : Mem) : Option Mem :=
  bd (X12_isPane σ x1) fun r3 =>
  if r3 = 0 then
    bd (pu σ 399 0 (1 : Int32)) fun σ31 =>
    some σ31
  else
    bd (X12_isPane σ x2) fun r11 =>
    if r11 = 0 then
      bd (pu σ 399 0 (1 : Int32)) fun σ31 =>
      some σ31
    else
      if x1 = x2 then
        bd (pu σ 399 0 (2 : Int32)) fun σ31 =>
        some σ31
      else
        bd (pu σ 399 0 (0 : Int32)) fun σ31 =>
        some σ31
def X12_isOpen (x1 : Int32) (x2 : Int32) (σ : Mem) : Option (Int32 × Mem) :=
  bd (X12_arePanes x1 x2 σ) fun σ3 =>
  if (σ3 399 0) = 0 then
    bd (X12_isWay σ3 x1 x2) fun r16 =>
    if r16 = 0 then
      bd (gb (0 : Int32)) fun _ =>
      some ((0 : Int32), σ3)
    else
      bd (gb (1 : Int32)) fun _ =>
      some ((1 : Int32), σ3)
  else
    bd (gb (0 : Int32)) fun _ =>
    some ((0 : Int32), σ3)
def X12_remembers_52 : Nat → Int32 → Mem → Option Mem
  | 0, _, _ => none
  | f + 1, x1, σ =>
    if (488 : Int32) ≤ x1 then
      bd (pu σ 399 6 ((σ 399 6) + (1 : Int32))) fun σ93 =>
      some σ93
    else
      bd (ag σ 400 x1) fun r78 =>
      bd (au σ 403 (((488 : Int32) * (σ 399 6)) + x1) r78) fun σ79 =>
      X12_remembers_52 f (x1 + 1) σ79
def X12_remembers_50 (σ : Mem) : Option Mem :=
  X12_remembers_52 FU (0 : Int32) σ
def X12_remembers_11 : Nat → Int32 → Mem → Option Mem
  | 0, _, _ => none
  | f + 1, x1, σ =>
    if (5368 : Int32) ≤ x1 then
      bd (pu σ 399 6 ((σ 399 6) - (1 : Int32))) fun σ47 =>
      X12_remembers_50 σ47
    else
      bd (ag σ 403 (x1 + (488 : Int32))) fun r32 =>
      bd (au σ 403 x1 r32) fun σ33 =>
      X12_remembers_11 f (x1 + 1) σ33
def X12_remembers (σ : Mem) : Option Mem :=
  if (σ 399 6) = (12 : Int32) then
    X12_remembers_11 FU (0 : Int32) σ
  else
    X12_remembers_50 σ
def X12_sets (x1 : Int32) (x2 : Int32) (σ : Mem) : Option (Int32 × Mem) :=
  bd (X12_remembers σ) fun σ1 =>
  bd (ag σ1 400 x1) fun r9 =>
  bd (au σ1 400 x1 x2) fun σ17 =>
  some (r9, σ17)
def X12_hours_16 (x1 : Int32) (y1 : Int32) (σ : Mem) : Option (Int32 × Mem) :=
  bd (pu σ 399 0 y1) fun σ16 =>
  if (σ16 399 0) ≤ 0 then
    bd (X12_remembers σ16) fun σ29 =>
    bd2 (X12_goes x1 (1 : Int32) σ29) fun r35 σ35 =>
    some (r35, σ35)
  else
    some ((0 : Int32), σ16)
def X12_hours (x1 : Int32) (σ : Mem) : Option (Int32 × Mem) :=
  bd (X12_isIn σ x1 (1 : Int32) (60 : Int32)) fun r5 =>
  if r5 = 0 then
    X12_hours_16 x1 (1 : Int32) σ
  else
    X12_hours_16 x1 (0 : Int32) σ
def X12_heads_27 (x1 : Int32) (x2 : Int32) (y1 : Int32) (σ : Mem) : Option (Int32 × Mem) :=
  bd (pu σ 399 0 y1) fun σ27 =>
  if (σ27 399 0) ≤ 0 then
    bd2 (X12_sets (((128 : Int32) + ((4 : Int32) * x1)) + (2 : Int32)) x2 σ27) fun r52 σ52 =>
    some (r52, σ52)
  else
    some ((0 : Int32), σ27)
def X12_heads_22 (x1 : Int32) (x2 : Int32) (σ : Mem) : Option (Int32 × Mem) :=
  X12_heads_27 x1 x2 (1 : Int32) σ
def X12_heads_26 (x1 : Int32) (x2 : Int32) (σ : Mem) : Option (Int32 × Mem) :=
  X12_heads_27 x1 x2 (0 : Int32) σ
def X12_heads (x1 : Int32) (x2 : Int32) (σ : Mem) : Option (Int32 × Mem) :=
  bd (X12_isWalker σ x1) fun r3 =>
  if r3 = 0 then
    X12_heads_22 x1 x2 σ
  else
    if x2 = (-1 : Int32) then
      X12_heads_26 x1 x2 σ
    else
      bd (X12_isPane σ x2) fun r16 =>
      if r16 = 0 then
        X12_heads_22 x1 x2 σ
      else
        X12_heads_26 x1 x2 σ
def X12_strike_77 (x1 : Int32) (x2 : Int32) (y1 : Int32) (σ : Mem) : Option (Int32 × Mem) :=
  bd (pu σ 399 0 y1) fun σ77 =>
  if (σ77 399 0) ≤ 0 then
    bd (X12_remembers σ77) fun σ90 =>
    bd (X12_kindles x1 x2 (1 : Int32) σ90) fun σ97 =>
    bd (X12_ofWalker σ97 x1 (1 : Int32)) fun r103 =>
    some (r103, σ97)
  else
    some ((0 : Int32), σ77)
def X12_strike_72 (x1 : Int32) (x2 : Int32) (σ : Mem) : Option (Int32 × Mem) :=
  X12_strike_77 x1 x2 (2 : Int32) σ
def X12_strike_14 (x1 : Int32) (y1 : Int32) (σ : Mem) : Option (Int32 × Mem) :=
  bd (pu σ 399 0 y1) fun σ14 =>
  if (σ14 399 0) ≤ 0 then
    bd (X12_ofWalker σ14 x1 (0 : Int32)) fun r29 =>
    bd (X12_ofWalker σ14 x1 (1 : Int32)) fun r37 =>
    if r37 = 0 then
      X12_strike_72 x1 r29 σ14
    else
      bd (X12_of σ14 r29 (1 : Int32)) fun r46 =>
      if r46 = (1 : Int32) then
        X12_strike_72 x1 r29 σ14
      else
        bd (X12_of σ14 r29 (2 : Int32)) fun r56 =>
        if r56 = x1 then
          X12_strike_72 x1 r29 σ14
        else
          bd (X12_of σ14 r29 (0 : Int32)) fun r66 =>
          if r66 = 0 then
            X12_strike_72 x1 r29 σ14
          else
            X12_strike_77 x1 r29 (0 : Int32) σ14
  else
    some ((0 : Int32), σ14)
def X12_strike (x1 : Int32) (σ : Mem) : Option (Int32 × Mem) :=
  bd (X12_isWalker σ x1) fun r3 =>
  if r3 = 0 then
    X12_strike_14 x1 (1 : Int32) σ
  else
    X12_strike_14 x1 (0 : Int32) σ
def X12_snuff_51 (x1 : Int32) (y1 : Int32) (σ : Mem) : Option (Int32 × Mem) :=
  bd (pu σ 399 0 y1) fun σ51 =>
  if (σ51 399 0) ≤ 0 then
    bd2 (X12_sets (((11 : Int32) + ((4 : Int32) * x1)) + (1 : Int32)) (0 : Int32) σ51) fun r73 σ73 =>
    bd (X12_of σ73 x1 (2 : Int32)) fun r83 =>
    bd (X12_logs (3 : Int32) x1 r83 σ73) fun σ86 =>
    bd (X12_of σ86 x1 (0 : Int32)) fun r92 =>
    some (r92, σ86)
  else
    some ((0 : Int32), σ51)
def X12_snuff_46 (x1 : Int32) (σ : Mem) : Option (Int32 × Mem) :=
  X12_snuff_51 x1 (2 : Int32) σ
def X12_snuff_14 (x1 : Int32) (y1 : Int32) (σ : Mem) : Option (Int32 × Mem) :=
  bd (pu σ 399 0 y1) fun σ14 =>
  if (σ14 399 0) ≤ 0 then
    bd (X12_of σ14 x1 (1 : Int32)) fun r30 =>
    if r30 = 0 then
      X12_snuff_46 x1 σ14
    else
      bd (X12_of σ14 x1 (2 : Int32)) fun r39 =>
      if r39 = (-1 : Int32) then
        X12_snuff_46 x1 σ14
      else
        X12_snuff_51 x1 (0 : Int32) σ14
  else
    some ((0 : Int32), σ14)
def X12_snuff (x1 : Int32) (σ : Mem) : Option (Int32 × Mem) :=
  bd (X12_isPane σ x1) fun r3 =>
  if r3 = 0 then
    X12_snuff_14 x1 (1 : Int32) σ
  else
    X12_snuff_14 x1 (0 : Int32) σ
def X12_oil_28 (x1 : Int32) (x2 : Int32) (y1 : Int32) (σ : Mem) : Option (Int32 × Mem) :=
  bd (pu σ 399 0 y1) fun σ28 =>
  if (σ28 399 0) ≤ 0 then
    bd (X12_of σ28 x1 (0 : Int32)) fun r54 =>
    bd (X12_lesser σ28 (99 : Int32) (r54 + x2)) fun r59 =>
    bd2 (X12_sets (((11 : Int32) + ((4 : Int32) * x1)) + (0 : Int32)) r59 σ28) fun r62 σ62 =>
    bd (X12_of σ62 x1 (0 : Int32)) fun r69 =>
    some (r69, σ62)
  else
    some ((0 : Int32), σ28)
def X12_oil (x1 : Int32) (x2 : Int32) (σ : Mem) : Option (Int32 × Mem) :=
  bd (X12_isPane σ x1) fun r3 =>
  if r3 = 0 then
    X12_oil_28 x1 x2 (1 : Int32) σ
  else
    bd (X12_isIn σ x2 (1 : Int32) (99 : Int32)) fun r17 =>
    if r17 = 0 then
      X12_oil_28 x1 x2 (2 : Int32) σ
    else
      X12_oil_28 x1 x2 (0 : Int32) σ
def X12_taper_28 (x1 : Int32) (x2 : Int32) (y1 : Int32) (σ : Mem) : Option (Int32 × Mem) :=
  bd (pu σ 399 0 y1) fun σ28 =>
  if (σ28 399 0) ≤ 0 then
    bd (X12_ofWalker σ28 x1 (1 : Int32)) fun r55 =>
    bd (X12_lesser σ28 (99 : Int32) (r55 + x2)) fun r60 =>
    bd2 (X12_sets (((128 : Int32) + ((4 : Int32) * x1)) + (1 : Int32)) r60 σ28) fun r63 σ63 =>
    bd (X12_ofWalker σ63 x1 (1 : Int32)) fun r70 =>
    some (r70, σ63)
  else
    some ((0 : Int32), σ28)
def X12_taper (x1 : Int32) (x2 : Int32) (σ : Mem) : Option (Int32 × Mem) :=
  bd (X12_isWalker σ x1) fun r3 =>
  if r3 = 0 then
    X12_taper_28 x1 x2 (1 : Int32) σ
  else
    bd (X12_isIn σ x2 (1 : Int32) (99 : Int32)) fun r17 =>
    if r17 = 0 then
      X12_taper_28 x1 x2 (2 : Int32) σ
    else
      X12_taper_28 x1 x2 (0 : Int32) σ
def X12_like_41 (x1 : Int32) (x2 : Int32) (x3 : Int32) (y1 : Int32) (σ : Mem) : Option (Int32 × Mem) :=
  bd (pu σ 399 0 y1) fun σ41 =>
  if (σ41 399 0) ≤ 0 then
    bd2 (X12_sets (((152 : Int32) + ((6 : Int32) * x1)) + x2) x3 σ41) fun r67 σ67 =>
    some (r67, σ67)
  else
    some ((0 : Int32), σ41)
def X12_like_17 (x1 : Int32) (x2 : Int32) (x3 : Int32) (σ : Mem) : Option (Int32 × Mem) :=
  X12_like_41 x1 x2 x3 (1 : Int32) σ
def X12_like_36 (x1 : Int32) (x2 : Int32) (x3 : Int32) (σ : Mem) : Option (Int32 × Mem) :=
  X12_like_41 x1 x2 x3 (2 : Int32) σ
def X12_like (x1 : Int32) (x2 : Int32) (x3 : Int32) (σ : Mem) : Option (Int32 × Mem) :=
  bd (X12_isWalker σ x1) fun r3 =>
  if r3 = 0 then
    X12_like_17 x1 x2 x3 σ
  else
    bd (X12_isWalker σ x2) fun r11 =>
    if r11 = 0 then
      X12_like_17 x1 x2 x3 σ
    else
      if x1 = x2 then
        X12_like_36 x1 x2 x3 σ
      else
        bd (X12_isIn σ x3 (0 : Int32) (9 : Int32)) fun r30 =>
        if r30 = 0 then
          X12_like_36 x1 x2 x3 σ
        else
          X12_like_41 x1 x2 x3 (0 : Int32) σ
def X12_way_39 (x3 : Int32) (x4 : Int32) (y1 : Int32) (y2 : Int32) (y3 : Int32) (σ : Mem) : Option (Int32 × Mem) :=
  bd (X12_ways y1 y2 y3 σ) fun σ39 =>
  if x4 = x3 then
    bd (gb (0 : Int32)) fun _ =>
    some ((0 : Int32), σ39)
  else
    bd (gb (1 : Int32)) fun _ =>
    some ((1 : Int32), σ39)
def X12_way (x1 : Int32) (x2 : Int32) (x3 : Int32) (σ : Mem) : Option (Int32 × Mem) :=
  bd (X12_arePanes x1 x2 σ) fun σ3 =>
  if (σ3 399 0) ≤ 0 then
    bd (X12_remembers σ3) fun σ16 =>
    bd (X12_isWay σ16 x1 x2) fun r22 =>
    if x3 = 0 then
      X12_way_39 x3 r22 x1 x2 (0 : Int32) σ16
    else
      X12_way_39 x3 r22 x1 x2 (1 : Int32) σ16
  else
    bd (gb (0 : Int32)) fun _ =>
    some ((0 : Int32), σ3)
def X12_far_22 (x1 : Int32) (x2 : Int32) (y1 : Int32) (σ : Mem) : Option (Int32 × Mem) :=
  bd (pu σ 399 0 y1) fun σ22 =>
  if (σ22 399 0) ≤ 0 then
    bd (X12_farOf σ22 x1 x2) fun r39 =>
    some (r39, σ22)
  else
    some ((0 : Int32), σ22)
def X12_far_17 (x1 : Int32) (x2 : Int32) (σ : Mem) : Option (Int32 × Mem) :=
  X12_far_22 x1 x2 (1 : Int32) σ
def X12_far (x1 : Int32) (x2 : Int32) (σ : Mem) : Option (Int32 × Mem) :=
  bd (X12_isPane σ x1) fun r3 =>
  if r3 = 0 then
    X12_far_17 x1 x2 σ
  else
    bd (X12_isPane σ x2) fun r11 =>
    if r11 = 0 then
      X12_far_17 x1 x2 σ
    else
      X12_far_22 x1 x2 (0 : Int32) σ
def X12_out_33 (rc13 : Int32 → Int32 → Mem → Option (Int32 × Mem)) (x1 : Int32) (x2 : Int32) (σ : Mem) : Option (Int32 × Mem) :=
  bd2 (X12_passes (0 : Int32) σ) fun r35 σ35 =>
  rc13 x1 (x2 + 1) σ35
def X12_out_45 (x1 : Int32) (σ : Mem) : Option (Int32 × Mem) :=
  bd (X12_comesBack σ) fun σ46 =>
  some (x1, σ46)
def X12_out_13 : Nat → Int32 → Int32 → Mem → Option (Int32 × Mem)
  | 0, _, _, _ => none
  | f + 1, x1, x2, σ =>
    if (60 : Int32) < x2 then
      X12_out_45 x1 σ
    else
      if x1 = (-1 : Int32) then
        bd (X12_burning σ) fun r25 =>
        if r25 = 0 then
          X12_out_33 (X12_out_13 f) x2 x2 σ
        else
          X12_out_33 (X12_out_13 f) x1 x2 σ
      else
        X12_out_45 x1 σ
def X12_out (σ : Mem) : Option (Int32 × Mem) :=
  bd (pu σ 399 0 (0 : Int32)) fun σ2 =>
  bd (X12_putsAside σ2) fun σ6 =>
  X12_out_13 FU (-1 : Int32) (0 : Int32) σ6
def X12_spoon_33 (rc13 : Int32 → Int32 → Mem → Option (Int32 × Mem)) : Nat → Int32 → Int32 → Int32 → Mem → Option (Int32 × Mem)
  | 0, _, _, _, _ => none
  | f + 1, x1, x2, x3, σ =>
    if x3 < 0 then
      bd2 (X12_passes (0 : Int32) σ) fun r67 σ67 =>
      rc13 x1 (x2 + 1) σ67
    else
      bd (X12_of σ x3 (2 : Int32)) fun r40 =>
      if r40 = (-1 : Int32) then
        X12_spoon_33 rc13 f x1 x2 (x3 + (-1)) σ
      else
        bd (X12_of σ x3 (3 : Int32)) fun r50 =>
        if r50 < (3 : Int32) then
          X12_spoon_33 rc13 f x1 x2 (x3 + (-1)) σ
        else
          X12_spoon_33 rc13 f x3 x2 (x3 + (-1)) σ
def X12_spoon_77 (x1 : Int32) (σ : Mem) : Option (Int32 × Mem) :=
  bd (X12_comesBack σ) fun σ78 =>
  some (x1, σ78)
def X12_spoon_13 : Nat → Int32 → Int32 → Mem → Option (Int32 × Mem)
  | 0, _, _, _ => none
  | f + 1, x1, x2, σ =>
    if (60 : Int32) < x2 then
      X12_spoon_77 x1 σ
    else
      if x1 = (-1 : Int32) then
        bd (ag σ 400 (3 : Int32)) fun r29 =>
        X12_spoon_33 (X12_spoon_13 f) FU x1 x2 (r29 - (1 : Int32)) σ
      else
        X12_spoon_77 x1 σ
def X12_spoon (σ : Mem) : Option (Int32 × Mem) :=
  bd (pu σ 399 0 (0 : Int32)) fun σ2 =>
  bd (X12_putsAside σ2) fun σ6 =>
  X12_spoon_13 FU (-1 : Int32) (0 : Int32) σ6
def X12_never_45 (rc9 : Int32 → Int32 → Mem → Option (Int32 × Mem)) (x2 : Int32) (y0 : Int32) (y1 : Int32) (σ : Mem) : Option (Int32 × Mem) :=
  rc9 (y0 ||| y1) (x2 + 1) σ
def X12_never_44 (rc9 : Int32 → Int32 → Mem → Option (Int32 × Mem)) (x2 : Int32) (y0 : Int32) (σ : Mem) : Option (Int32 × Mem) :=
  X12_never_45 rc9 x2 y0 (0 : Int32) σ
def X12_never_9 : Nat → Int32 → Int32 → Mem → Option (Int32 × Mem)
  | 0, _, _, _ => none
  | f + 1, x1, x2, σ =>
    bd (ag σ 400 (3 : Int32)) fun r15 =>
    if r15 ≤ x2 then
      some (x1, σ)
    else
      bd (X12_of σ x2 (1 : Int32)) fun r23 =>
      if r23 = 0 then
        bd2 (X12_lighters x2 (0 : Int32) σ) fun r32 σ32 =>
        if r32 = 0 then
          X12_never_45 (X12_never_9 f) x2 x1 ((1 : Int32) <<< (x2 &&& 31)) σ32
        else
          X12_never_44 (X12_never_9 f) x2 x1 σ32
      else
        X12_never_44 (X12_never_9 f) x2 x1 σ
def X12_never (σ : Mem) : Option (Int32 × Mem) :=
  bd (pu σ 399 0 (0 : Int32)) fun σ2 =>
  X12_never_9 FU (0 : Int32) (0 : Int32) σ2
def X12_arePanesTold_81 (σ : Mem) (rc17 : Int32 → Int32 → Int32 → Int32 → Option Int32) (x1 : Int32) (x2 : Int32) (x4 : Int32) (y0 : Int32) (y1 : Int32) : Option Int32 :=
  rc17 x1 x2 (y0 ||| y1) (x4 + 1)
def X12_arePanesTold_62 (σ : Mem) (rc17 : Int32 → Int32 → Int32 → Int32 → Option Int32) (x1 : Int32) (x3 : Int32) (x4 : Int32) (y0 : Int32) : Option Int32 :=
  if y0 = 0 then
    X12_arePanesTold_81 σ rc17 x1 y0 x4 x3 (0 : Int32)
  else
    bd (ag σ 404 x4) fun r75 =>
    X12_arePanesTold_81 σ rc17 x1 y0 x4 x3 ((1 : Int32) <<< (r75 &&& 31))
def X12_arePanesTold_61 (σ : Mem) (rc17 : Int32 → Int32 → Int32 → Int32 → Option Int32) (x1 : Int32) (x3 : Int32) (x4 : Int32) : Option Int32 :=
  X12_arePanesTold_62 σ rc17 x1 x3 x4 (0 : Int32)
def X12_arePanesTold_17 (σ : Mem) : Nat → Int32 → Int32 → Int32 → Int32 → Option Int32
  | 0, _, _, _, _ => none
  | f + 1, x1, x2, x3, x4 =>
    if x1 ≤ x4 then
      bd (gb x2) fun _ =>
      some (x2)
    else
      if x2 = 0 then
        bd (gb x2) fun _ =>
        some (x2)
      else
        bd (ag σ 404 x4) fun r33 =>
        bd (ag σ 400 (3 : Int32)) fun r39 =>
        if r39 ≤ r33 then
          X12_arePanesTold_61 σ (X12_arePanesTold_17 σ f) x1 x3 x4
        else
          bd (ag σ 404 x4) fun r50 =>
          bd (X12_isOf σ x3 r50) fun r51 =>
          if r51 = 0 then
            X12_arePanesTold_62 σ (X12_arePanesTold_17 σ f) x1 x3 x4 (1 : Int32)
          else
            X12_arePanesTold_61 σ (X12_arePanesTold_17 σ f) x1 x3 x4
def X12_arePanesTold_11 (σ : Mem) (x1 : Int32) (y0 : Int32) : Option Int32 :=
  X12_arePanesTold_17 σ FU x1 y0 (0 : Int32) (0 : Int32)
def X12_arePanesTold (σ : Mem) (x1 : Int32) : Option Int32 :=
  if (8 : Int32) < x1 then
    X12_arePanesTold_11 σ x1 (0 : Int32)
  else
    X12_arePanesTold_11 σ x1 (1 : Int32)
def X12_goesBy_45 (σ : Mem) : Option Int32 :=
  some ((2000000000 : Int32))
def X12_goesBy (σ : Mem) (x1 : Int32) (x2 : Int32) (x3 : Int32) : Option Int32 :=
  bd (ag σ 404 x2) fun r13 =>
  bd (ag σ 406 (((9 : Int32) * x1) + r13)) fun r15 =>
  bd (ag σ 407 (((9 : Int32) * x3) + x2)) fun r28 =>
  if r15 = (-1 : Int32) then
    X12_goesBy_45 σ
  else
    if r28 = (2000000000 : Int32) then
      X12_goesBy_45 σ
    else
      some ((r15 + r28))
def X12_roadsOf_38 (rc6 : Int32 → Int32 → Mem → Option Mem) (rc12 : Int32 → Int32 → Int32 → Mem → Option Mem) : Nat → Int32 → Int32 → Int32 → Int32 → Int32 → Mem → Option Mem
  | 0, _, _, _, _, _, _ => none
  | f + 1, x1, x2, x3, x4, x5, σ =>
    if x1 ≤ x5 then
      bd (au σ 407 (((9 : Int32) * x2) + x3) x4) fun σ96 =>
      rc12 x1 x2 (x3 + 1) σ96
    else
      bd (X12_isOf σ x2 x5) fun r47 =>
      if r47 = 0 then
        bd (ag σ 404 x3) fun r61 =>
        bd (X12_goesBy σ r61 x5 (x2 ||| ((1 : Int32) <<< (x5 &&& 31)))) fun r70 =>
        bd (X12_lesser σ x4 r70) fun r73 =>
        X12_roadsOf_38 rc6 rc12 f x1 x2 x3 r73 (x5 + 1) σ
      else
        X12_roadsOf_38 rc6 rc12 f x1 x2 x3 x4 (x5 + 1) σ
def X12_roadsOf_33 (rc6 : Int32 → Int32 → Mem → Option Mem) (rc12 : Int32 → Int32 → Int32 → Mem → Option Mem) (x1 : Int32) (x2 : Int32) (x3 : Int32) (y0 : Int32) (σ : Mem) : Option Mem :=
  X12_roadsOf_38 rc6 rc12 FU x1 x2 x3 y0 (0 : Int32) σ
def X12_roadsOf_12 (rc6 : Int32 → Int32 → Mem → Option Mem) : Nat → Int32 → Int32 → Int32 → Mem → Option Mem
  | 0, _, _, _, _ => none
  | f + 1, x1, x2, x3, σ =>
    if x1 ≤ x3 then
      rc6 x1 (x2 + (-1)) σ
    else
      if x2 = (((1 : Int32) <<< (x1 &&& 31)) - (1 : Int32)) then
        X12_roadsOf_33 rc6 (X12_roadsOf_12 rc6 f) x1 x2 x3 (0 : Int32) σ
      else
        X12_roadsOf_33 rc6 (X12_roadsOf_12 rc6 f) x1 x2 x3 (2000000000 : Int32) σ
def X12_roadsOf_6 : Nat → Int32 → Int32 → Mem → Option Mem
  | 0, _, _, _ => none
  | f + 1, x1, x2, σ =>
    if x2 ≤ 0 then
      some σ
    else
      X12_roadsOf_12 (X12_roadsOf_6 f) FU x1 x2 (0 : Int32) σ
def X12_roadsOf (x1 : Int32) (σ : Mem) : Option Mem :=
  X12_roadsOf_6 FU x1 (((1 : Int32) <<< (x1 &&& 31)) - (1 : Int32)) σ
def X12_round_79 (rc65 : Int32 → Int32 → Int32 → Int32 → Mem → Option (Int32 × Mem)) : Nat → Int32 → Int32 → Int32 → Int32 → Int32 → Mem → Option (Int32 × Mem)
  | 0, _, _, _, _, _, _ => none
  | f + 1, x1, x2, x3, x4, x5, σ =>
    bd (ag σ 400 (3 : Int32)) fun r86 =>
    if r86 ≤ x5 then
      rc65 x1 x2 x3 (x4 + 1) σ
    else
      bd (X12_farOf σ x4 x5) fun r107 =>
      bd (au σ 406 (((9 : Int32) * x4) + x5) r107) fun σ110 =>
      X12_round_79 rc65 f x1 x2 x3 x4 (x5 + 1) σ110
def X12_round_204 (rc140 : Int32 → Int32 → Int32 → Int32 → Int32 → Int32 → Mem → Option (Int32 × Mem)) (x1 : Int32) (x2 : Int32) (x3 : Int32) (x4 : Int32) (x5 : Int32) (x6 : Int32) (x7 : Int32) (σ : Mem) : Option (Int32 × Mem) :=
  bd (X12_lesser σ x4 x7) fun r208 =>
  rc140 x1 x2 x3 r208 x5 (x6 + 1) σ
def X12_round_175 (rc140 : Int32 → Int32 → Int32 → Int32 → Int32 → Int32 → Mem → Option (Int32 × Mem)) (x1 : Int32) (x2 : Int32) (x3 : Int32) (x4 : Int32) (x5 : Int32) (x6 : Int32) (x7 : Int32) (σ : Mem) : Option (Int32 × Mem) :=
  if x4 < x7 then
    X12_round_204 rc140 x1 x2 x3 x4 x5 x6 x7 σ
  else
    if (2000000000 : Int32) ≤ x7 then
      X12_round_204 rc140 x1 x2 x3 x4 x5 x6 x7 σ
    else
      bd (ag σ 404 x6) fun r198 =>
      bd (X12_lesser σ x5 r198) fun r199 =>
      X12_round_204 rc140 x1 x2 x3 x4 r199 x6 x7 σ
def X12_round_140 : Nat → Int32 → Int32 → Int32 → Int32 → Int32 → Int32 → Mem → Option (Int32 × Mem)
  | 0, _, _, _, _, _, _, _ => none
  | f + 1, x1, x2, x3, x4, x5, x6, σ =>
    if x3 ≤ x6 then
      if x4 = (2000000000 : Int32) then
        some ((-1 : Int32), σ)
      else
        if x2 = 0 then
          some (x4, σ)
        else
          some (x5, σ)
    else
      bd (X12_ofWalker σ x1 (0 : Int32)) fun r150 =>
      bd (X12_goesBy σ r150 x6 ((1 : Int32) <<< (x6 &&& 31))) fun r159 =>
      if x4 ≤ r159 then
        X12_round_175 (X12_round_140 f) x1 x2 x3 x4 x5 x6 r159 σ
      else
        X12_round_175 (X12_round_140 f) x1 x2 x3 x4 (9 : Int32) x6 r159 σ
def X12_round_65 : Nat → Int32 → Int32 → Int32 → Int32 → Mem → Option (Int32 × Mem)
  | 0, _, _, _, _, _ => none
  | f + 1, x1, x2, x3, x4, σ =>
    bd (ag σ 400 (3 : Int32)) fun r72 =>
    if r72 ≤ x4 then
      bd (X12_roadsOf x3 σ) fun σ125 =>
      X12_round_140 FU x1 x2 x3 (2000000000 : Int32) (9 : Int32) (0 : Int32) σ125
    else
      X12_round_79 (X12_round_65 f) FU x1 x2 x3 x4 (0 : Int32) σ
def X12_round_36 (x1 : Int32) (x2 : Int32) (x3 : Int32) (y1 : Int32) (σ : Mem) : Option (Int32 × Mem) :=
  bd (pu σ 399 0 y1) fun σ36 =>
  if (σ36 399 0) ≤ 0 then
    if x3 = 0 then
      if x2 = 0 then
        some ((0 : Int32), σ36)
      else
        some ((-1 : Int32), σ36)
    else
      X12_round_65 FU x1 x2 x3 (0 : Int32) σ36
  else
    some ((0 : Int32), σ36)
def X12_round (x1 : Int32) (x2 : Int32) (σ : Mem) : Option (Int32 × Mem) :=
  bd (pu σ 399 8 (0 : Int32)) fun σ7 =>
  bd (X12_isWalker σ7 x1) fun r13 =>
  if r13 = 0 then
    X12_round_36 x1 x2 (σ 399 8) (1 : Int32) σ7
  else
    bd (X12_arePanesTold σ7 (σ 399 8)) fun r25 =>
    if r25 = 0 then
      X12_round_36 x1 x2 (σ 399 8) (2 : Int32) σ7
    else
      X12_round_36 x1 x2 (σ 399 8) (0 : Int32) σ7
def X12_beats_33 (rc9 : Int32 → Int32 → Mem → Option (Int32 × Mem)) (x1 : Int32) (x2 : Int32) (σ : Mem) : Option (Int32 × Mem) :=
  bd (X12_nextTo σ x2) fun r36 =>
  bd (X12_allPanes σ) fun r41 =>
  if (x2 ||| r36) = r41 then
    rc9 x2 (x2 + 1) σ
  else
    rc9 x1 (x2 + 1) σ
def X12_beats_9 : Nat → Int32 → Int32 → Mem → Option (Int32 × Mem)
  | 0, _, _, _ => none
  | f + 1, x1, x2, σ =>
    bd (X12_allPanes σ) fun r11 =>
    if r11 < x2 then
      some (x1, σ)
    else
      if x1 = (-1 : Int32) then
        X12_beats_33 (X12_beats_9 f) x1 x2 σ
      else
        bd (X12_bits σ x2) fun r23 =>
        bd (X12_bits σ x1) fun r27 =>
        if r27 ≤ r23 then
          X12_beats_9 f x1 (x2 + 1) σ
        else
          X12_beats_33 (X12_beats_9 f) x1 x2 σ
def X12_beats (σ : Mem) : Option (Int32 × Mem) :=
  bd (pu σ 399 0 (0 : Int32)) fun σ2 =>
  X12_beats_9 FU (-1 : Int32) (0 : Int32) σ2
def X12_pieceOf_39 (σ : Mem) (rc7 : Int32 → Int32 → Int32 → Option Int32) (x2 : Int32) (x4 : Int32) (y0 : Int32) (y1 : Int32) : Option Int32 :=
  rc7 x2 (y0 ||| y1) (x4 + 1)
def X12_pieceOf_7 (σ : Mem) : Nat → Int32 → Int32 → Int32 → Option Int32
  | 0, _, _, _ => none
  | f + 1, x2, x3, x4 =>
    if (9 : Int32) ≤ x4 then
      some (x3)
    else
      if x2 = (-1 : Int32) then
        bd (X12_nextTo σ x3) fun r22 =>
        X12_pieceOf_39 σ (X12_pieceOf_7 σ f) x2 x4 x3 r22
      else
        bd (X12_nextTo σ x3) fun r30 =>
        X12_pieceOf_39 σ (X12_pieceOf_7 σ f) x2 x4 x3 (r30 &&& (((1 : Int32) <<< (x2 &&& 31)) ^^^ (-1 : Int32)))
def X12_pieceOf (σ : Mem) (x1 : Int32) (x2 : Int32) : Option Int32 :=
  X12_pieceOf_7 σ FU x2 ((1 : Int32) <<< (x1 &&& 31)) (0 : Int32)
def X12_parts_14 : Nat → Int32 → Int32 → Int32 → Mem → Option (Int32 × Mem)
  | 0, _, _, _, _ => none
  | f + 1, x1, x2, x3, σ =>
    bd (ag σ 400 (3 : Int32)) fun r20 =>
    if r20 ≤ x3 then
      some (x2, σ)
    else
      bd (X12_isOf σ x1 x3) fun r26 =>
      if r26 = 0 then
        X12_parts_14 f x1 x2 (x3 + 1) σ
      else
        bd (X12_pieceOf σ x3 (-1 : Int32)) fun r39 =>
        X12_parts_14 f (x1 &&& (r39 ^^^ (-1 : Int32))) (x2 + 1) (x3 + 1) σ
def X12_parts (σ : Mem) : Option (Int32 × Mem) :=
  bd (pu σ 399 0 (0 : Int32)) fun σ2 =>
  bd (X12_allPanes σ2) fun r6 =>
  X12_parts_14 FU r6 (0 : Int32) (0 : Int32) σ2
def X12_bend_21 (rc9 : Int32 → Int32 → Mem → Option (Int32 × Mem)) : Nat → Int32 → Int32 → Int32 → Mem → Option (Int32 × Mem)
  | 0, _, _, _, _ => none
  | f + 1, x1, x2, x3, σ =>
    bd (ag σ 400 (3 : Int32)) fun r27 =>
    if r27 ≤ x3 then
      rc9 x1 (x2 + 1) σ
    else
      if x3 = x2 then
        X12_bend_21 rc9 f x1 x2 (x3 + 1) σ
      else
        bd (X12_pieceOf σ x3 (-1 : Int32)) fun r39 =>
        bd (X12_pieceOf σ x3 x2) fun r51 =>
        if (r39 &&& (((1 : Int32) <<< (x2 &&& 31)) ^^^ (-1 : Int32))) = r51 then
          X12_bend_21 rc9 f x1 x2 (x3 + 1) σ
        else
          X12_bend_21 rc9 f (x1 ||| ((1 : Int32) <<< (x2 &&& 31))) x2 (x3 + 1) σ
def X12_bend_9 : Nat → Int32 → Int32 → Mem → Option (Int32 × Mem)
  | 0, _, _, _ => none
  | f + 1, x1, x2, σ =>
    bd (ag σ 400 (3 : Int32)) fun r15 =>
    if r15 ≤ x2 then
      some (x1, σ)
    else
      X12_bend_21 (X12_bend_9 f) FU x1 x2 (0 : Int32) σ
def X12_bend (σ : Mem) : Option (Int32 × Mem) :=
  bd (pu σ 399 0 (0 : Int32)) fun σ2 =>
  X12_bend_9 FU (0 : Int32) (0 : Int32) σ2
def X12_findsWalk_63 (rc30 : Int32 → Int32 → Int32 → Mem → Option (Int32 × Mem)) (rc49 : Int32 → Int32 → Int32 → Int32 → Mem → Option (Int32 × Mem)) : Nat → Int32 → Int32 → Int32 → Int32 → Int32 → Mem → Option (Int32 × Mem)
  | 0, _, _, _, _, _, _ => none
  | f + 1, x1, x2, x3, x4, x5, σ =>
    bd (ag σ 400 (3 : Int32)) fun r70 =>
    if r70 ≤ x5 then
      rc49 x1 x2 x3 (x4 + 1) σ
    else
      bd (ag σ 410 x4) fun r80 =>
      if r80 = (-1 : Int32) then
        X12_findsWalk_63 rc30 rc49 f x1 x2 x3 x4 (x5 + 1) σ
      else
        bd (ag σ 410 x5) fun r91 =>
        if r91 = (-1 : Int32) then
          bd (X12_isWay σ x4 x5) fun r101 =>
          if r101 = 0 then
            X12_findsWalk_63 rc30 rc49 f x1 x2 x3 x4 (x5 + 1) σ
          else
            bd (ag σ 409 (((9 : Int32) * x4) + x5)) fun r119 =>
            if r119 ≤ 0 then
              bd (au σ 410 x5 x4) fun σ134 =>
              X12_findsWalk_63 rc30 rc49 f x1 x2 (1 : Int32) x4 (x5 + 1) σ134
            else
              X12_findsWalk_63 rc30 rc49 f x1 x2 x3 x4 (x5 + 1) σ
        else
          X12_findsWalk_63 rc30 rc49 f x1 x2 x3 x4 (x5 + 1) σ
def X12_findsWalk_49 (rc30 : Int32 → Int32 → Int32 → Mem → Option (Int32 × Mem)) : Nat → Int32 → Int32 → Int32 → Int32 → Mem → Option (Int32 × Mem)
  | 0, _, _, _, _, _ => none
  | f + 1, x1, x2, x3, x4, σ =>
    bd (ag σ 400 (3 : Int32)) fun r56 =>
    if r56 ≤ x4 then
      rc30 x1 x2 x3 σ
    else
      X12_findsWalk_63 rc30 (X12_findsWalk_49 rc30 f) FU x1 x2 x3 x4 (0 : Int32) σ
def X12_findsWalk_167 : Nat → Int32 → Int32 → Mem → Option (Int32 × Mem)
  | 0, _, _, _ => none
  | f + 1, x1, x4, σ =>
    if x4 = x1 then
      bd (gb (1 : Int32)) fun _ =>
      some ((1 : Int32), σ)
    else
      bd (ag σ 410 x4) fun r185 =>
      bd (ag σ 409 (((9 : Int32) * r185) + x4)) fun r191 =>
      bd (au σ 409 (((9 : Int32) * r185) + x4) (r191 + (1 : Int32))) fun σ194 =>
      bd (ag σ194 410 x4) fun r210 =>
      bd (ag σ194 409 (((9 : Int32) * x4) + r210)) fun r213 =>
      bd (au σ194 409 (((9 : Int32) * x4) + r210) (r213 - (1 : Int32))) fun σ216 =>
      bd (ag σ216 410 x4) fun r223 =>
      X12_findsWalk_167 f x1 r223 σ216
def X12_findsWalk_152 (x1 : Int32) (x2 : Int32) (σ : Mem) : Option (Int32 × Mem) :=
  bd (ag σ 410 x2) fun r157 =>
  if r157 = (-1 : Int32) then
    bd (gb (0 : Int32)) fun _ =>
    some ((0 : Int32), σ)
  else
    X12_findsWalk_167 FU x1 x2 σ
def X12_findsWalk_30 : Nat → Int32 → Int32 → Int32 → Mem → Option (Int32 × Mem)
  | 0, _, _, _, _ => none
  | f + 1, x1, x2, x3, σ =>
    if x3 = 0 then
      X12_findsWalk_152 x1 x2 σ
    else
      bd (ag σ 410 x2) fun r39 =>
      if r39 = (-1 : Int32) then
        X12_findsWalk_49 (X12_findsWalk_30 f) FU x1 x2 (0 : Int32) (0 : Int32) σ
      else
        X12_findsWalk_152 x1 x2 σ
def X12_findsWalk_2 : Nat → Int32 → Int32 → Int32 → Mem → Option (Int32 × Mem)
  | 0, _, _, _, _ => none
  | f + 1, x1, x2, x3, σ =>
    if (9 : Int32) ≤ x3 then
      bd (au σ 410 x1 x1) fun σ27 =>
      X12_findsWalk_30 FU x1 x2 (1 : Int32) σ27
    else
      bd (au σ 410 x3 (-1 : Int32)) fun σ14 =>
      X12_findsWalk_2 f x1 x2 (x3 + 1) σ14
def X12_findsWalk (x1 : Int32) (x2 : Int32) (σ : Mem) : Option (Int32 × Mem) :=
  X12_findsWalk_2 FU x1 x2 (0 : Int32) σ
def X12_closed_64 : Nat → Int32 → Int32 → Int32 → Mem → Option (Int32 × Mem)
  | 0, _, _, _, _ => none
  | f + 1, x1, x2, x3, σ =>
    bd2 (X12_findsWalk x1 x2 σ) fun r67 σ67 =>
    if r67 = 0 then
      some (x3, σ67)
    else
      X12_closed_64 f x1 x2 (x3 + 1) σ67
def X12_closed_43 : Nat → Int32 → Int32 → Int32 → Mem → Option (Int32 × Mem)
  | 0, _, _, _, _ => none
  | f + 1, x1, x2, x3, σ =>
    if (81 : Int32) ≤ x3 then
      X12_closed_64 FU x1 x2 (0 : Int32) σ
    else
      bd (au σ 409 x3 (0 : Int32)) fun σ55 =>
      X12_closed_43 f x1 x2 (x3 + 1) σ55
def X12_closed_22 (x1 : Int32) (x2 : Int32) (y1 : Int32) (σ : Mem) : Option (Int32 × Mem) :=
  bd (pu σ 399 0 y1) fun σ22 =>
  if (σ22 399 0) ≤ 0 then
    if x1 = x2 then
      some ((-1 : Int32), σ22)
    else
      X12_closed_43 FU x1 x2 (0 : Int32) σ22
  else
    some ((0 : Int32), σ22)
def X12_closed_17 (x1 : Int32) (x2 : Int32) (σ : Mem) : Option (Int32 × Mem) :=
  X12_closed_22 x1 x2 (1 : Int32) σ
def X12_closed (x1 : Int32) (x2 : Int32) (σ : Mem) : Option (Int32 × Mem) :=
  bd (X12_isPane σ x1) fun r3 =>
  if r3 = 0 then
    X12_closed_17 x1 x2 σ
  else
    bd (X12_isPane σ x2) fun r11 =>
    if r11 = 0 then
      X12_closed_17 x1 x2 σ
    else
      X12_closed_22 x1 x2 (0 : Int32) σ
section WALK
variable {p : Program} {l : Launch} {e : Env} {s : State} {m : MethodId} {args : Array Value} {below : List Frame} {meth : Method} {c : Code} {E : GE}
set_option maxRecDepth 20000 in
theorem w_X12_lights_22 {r : (Int32 × Mem)} {σ : Mem} {x1 : Int32} {x2 : Int32} {y1 : Int32} {ls : Array Slot} {H : Heap} {locs : List Loc} (C : Cx p s m args meth c cX12_lights (some .boolean) 3 RX12) (G : Gf E s) (X : Hx E σ s H locs) (hl : lv_has ls 3 [(0, .ref (gB E + 399)), (1, .int x1), (2, .int x2)]) (h : X12_lights_22 x1 x2 y1 σ = some r) : W p l e (RM 206) s m args below meth c H locs 0 0 (QI E below args s r.1 r.2) (F0 m 22 ls [.int y1, .ref (gB E + 399)]) := by
  rw [X12_lights_22] at h
  obtain ⟨σ22, e22, h⟩ := bnd h
  refine pfX12 C G X (k := 399) kd_399 0 (x := y1) (ty := .int) rfl rfl (Nat.le_of_ble_eq_true rfl) (by decide) k_1651 rfl rfl (by decide +kernel) rfl rfl dX12_lights_22 (fun H locs X => ?_)
  replace X := pu_x e22 X
  refine lv_aload_n C.1 C.2.1 dX12_lights_25 rfl (lv_at hl 0 rfl) ?_
  refine gfX12 C G X (k := 399) kd_399 0 (v := .int (σ22 399 0)) rfl rfl (by decide) k_1651 rfl dX12_lights_26 ?_
  refine lv_if_ne (tgt := 45) C.1 C.2.1 dX12_lights_29 (by decide) (fun c29 => ?_) (fun c29 => ?_)
  · replace h := ineg c29 h
    refine lv_iconst (v := 0) C.1 C.2.1 dX12_lights_45 (by decide) ?_
    obtain ⟨u46, z46, h⟩ := bnd h
    rw [← Option.some.inj h]
    exact rtZ C X (gb_s z46) dX12_lights_46
  · replace h := ipos c29 h
    refine lv_aload_n C.1 C.2.1 dX12_lights_32 rfl (lv_at hl 0 rfl) ?_
    refine lv_iload_n C.1 C.2.1 dX12_lights_33 rfl (lv_at hl 1 rfl) ?_
    refine lv_iload_n C.1 C.2.1 dX12_lights_34 rfl (lv_at hl 2 rfl) ?_
    obtain ⟨r35, σ35, e35, h⟩ := bnd2 h
    refine afI (r0 := r35) (σ' := σ35) X (runV C G X q_X12_doesLight k_1899 kp_56 k_1897 (rcX12 G X kd_399) (c_X12_doesLight l E e35) rfl hl.1 rfl (Nat.le_of_ble_eq_true rfl) ⟨Nat.le_of_ble_eq_true rfl, Nat.le_of_ble_eq_true rfl⟩ ⟨Nat.le_of_ble_eq_true rfl, Nat.le_of_ble_eq_true rfl⟩ dX12_lights_35) (fun H locs X => ?_)
    refine lv_if_eq (tgt := 45) C.1 C.2.1 dX12_lights_38 (by decide) (fun c38 => ?_) (fun c38 => ?_)
    · replace h := ipos c38 h
      refine lv_iconst (v := 0) C.1 C.2.1 dX12_lights_45 (by decide) ?_
      obtain ⟨u46, z46, h⟩ := bnd h
      rw [← Option.some.inj h]
      exact rtZ C X (gb_s z46) dX12_lights_46
    · replace h := ineg c38 h
      refine lv_iconst (v := 1) C.1 C.2.1 dX12_lights_41 (by decide) ?_
      refine lv_goto (tgt := 46) C.1 C.2.1 dX12_lights_42 (by decide) ?_
      obtain ⟨u46, z46, h⟩ := bnd h
      rw [← Option.some.inj h]
      exact rtZ C X (gb_s z46) dX12_lights_46

set_option maxRecDepth 20000 in
theorem w_X12_lights_17 {r : (Int32 × Mem)} {σ : Mem} {x1 : Int32} {x2 : Int32} {ls : Array Slot} {H : Heap} {locs : List Loc} (C : Cx p s m args meth c cX12_lights (some .boolean) 3 RX12) (G : Gf E s) (X : Hx E σ s H locs) (hl : lv_has ls 3 [(0, .ref (gB E + 399)), (1, .int x1), (2, .int x2)]) (h : X12_lights_17 x1 x2 σ = some r) : W p l e (RM 206) s m args below meth c H locs 0 0 (QI E below args s r.1 r.2) (F0 m 17 ls [.ref (gB E + 399)]) := by
  rw [X12_lights_17] at h
  refine lv_iconst (v := 1) C.1 C.2.1 dX12_lights_17 (by decide) ?_
  refine lv_goto (tgt := 22) C.1 C.2.1 dX12_lights_18 (by decide) ?_
  exact w_X12_lights_22 C G X (lv_sub hl [0, 1, 2] rfl) h

set_option maxRecDepth 20000 in
theorem w_X12_lights {r : (Int32 × Mem)} {σ : Mem} {x1 : Int32} {x2 : Int32} {ls : Array Slot} {H : Heap} {locs : List Loc} (C : Cx p s m args meth c cX12_lights (some .boolean) 3 RX12) (G : Gf E s) (X : Hx E σ s H locs) (hl : lv_has ls 3 [(0, .ref (gB E + 399)), (1, .int x1), (2, .int x2)]) (h : X12_lights x1 x2 σ = some r) : W p l e (RM 206) s m args below meth c H locs 0 0 (QI E below args s r.1 r.2) (F0 m 0 ls []) := by
  rw [X12_lights] at h
  refine lv_aload_n C.1 C.2.1 dX12_lights_0 rfl (lv_at hl 0 rfl) ?_
  refine lv_aload_n C.1 C.2.1 dX12_lights_1 rfl (lv_at hl 0 rfl) ?_
  refine lv_iload_n C.1 C.2.1 dX12_lights_2 rfl (lv_at hl 1 rfl) ?_
  obtain ⟨r3, e3, h⟩ := bnd h
  refine afI X (runV C G X q_X12_isWalker k_1977 kp_72 k_1975 (rcX12 G X kd_399) (c_X12_isWalker l E e3) rfl hl.1 rfl (Nat.le_of_ble_eq_true rfl) ⟨Nat.le_of_ble_eq_true rfl, Nat.le_of_ble_eq_true rfl⟩ ⟨Nat.le_of_ble_eq_true rfl, Nat.le_of_ble_eq_true rfl⟩ dX12_lights_3) (fun H locs X => ?_)
  refine lv_if_eq (tgt := 17) C.1 C.2.1 dX12_lights_6 (by decide) (fun c6 => ?_) (fun c6 => ?_)
  · replace h := ipos c6 h
    exact w_X12_lights_17 C G X (lv_sub hl [0, 1, 2] rfl) h
  · replace h := ineg c6 h
    refine lv_aload_n C.1 C.2.1 dX12_lights_9 rfl (lv_at hl 0 rfl) ?_
    refine lv_iload_n C.1 C.2.1 dX12_lights_10 rfl (lv_at hl 2 rfl) ?_
    obtain ⟨r11, e11, h⟩ := bnd h
    refine afI X (runV C G X q_X12_isPane k_1891 kp_54 k_1889 (rcX12 G X kd_399) (c_X12_isPane l E e11) rfl hl.1 rfl (Nat.le_of_ble_eq_true rfl) ⟨Nat.le_of_ble_eq_true rfl, Nat.le_of_ble_eq_true rfl⟩ ⟨Nat.le_of_ble_eq_true rfl, Nat.le_of_ble_eq_true rfl⟩ dX12_lights_11) (fun H locs X => ?_)
    refine lv_if_ne (tgt := 21) C.1 C.2.1 dX12_lights_14 (by decide) (fun c14 => ?_) (fun c14 => ?_)
    · replace h := ineg c14 h
      refine lv_iconst (v := 0) C.1 C.2.1 dX12_lights_21 (by decide) ?_
      exact w_X12_lights_22 C G X (lv_sub hl [0, 1, 2] rfl) h
    · replace h := ipos c14 h
      exact w_X12_lights_17 C G X (lv_sub hl [0, 1, 2] rfl) h

theorem c_X12_lights (l : Launch) (E : GE) {σ : Mem} {x1 : Int32} {x2 : Int32} {r : (Int32 × Mem)} (h : X12_lights x1 x2 σ = some r) : CtI l E yX12_lights cX12_lights 3 .boolean 206 [.ref (gB E + 399), .int x1, .int x2] σ r.1 r.2 := by
  refine Met.ofW (cc := cX12_lights) (maxL := 3) (ret := (some .boolean)) (by decide) rfl ?_
  intro p e s m args below meth c s₁ B hml hv
  obtain ⟨rfl, G, X⟩ := start hv
  have C := cxof B hml
  have hl := lv_entry [.ref (gB E + 399), .int x1, .int x2] (n := 3) (Nat.le_of_ble_eq_true rfl)
  rw [lg_entry_eq]
  generalize (lg_sl [.ref (gB E + 399), .int x1, .int x2] ++ List.replicate (3 - (lg_sl [.ref (gB E + 399), .int x1, .int x2]).length) Slot.unset).toArray = ls at hl ⊢
  exact w_X12_lights C G X hl h

set_option maxRecDepth 20000 in
theorem w_X12_arePanes {r : Mem} {σ : Mem} {x1 : Int32} {x2 : Int32} {ls : Array Slot} {H : Heap} {locs : List Loc} (C : Cx p s m args meth c cX12_arePanes none 3 RX12) (G : Gf E s) (X : Hx E σ s H locs) (hl : lv_has ls 3 [(0, .ref (gB E + 399)), (1, .int x1), (2, .int x2)]) (h : X12_arePanes x1 x2 σ = some r) : W p l e (RM 3) s m args below meth c H locs 0 0 (QV E below args s r) (F0 m 0 ls []) := by
  rw [X12_arePanes] at h
  refine lv_aload_n C.1 C.2.1 dX12_arePanes_0 rfl (lv_at hl 0 rfl) ?_
  refine lv_aload_n C.1 C.2.1 dX12_arePanes_1 rfl (lv_at hl 0 rfl) ?_
  refine lv_iload_n C.1 C.2.1 dX12_arePanes_2 rfl (lv_at hl 1 rfl) ?_
  obtain ⟨r3, e3, h⟩ := bnd h
  refine afI X (runV C G X q_X12_isPane k_1891 kp_54 k_1889 (rcX12 G X kd_399) (c_X12_isPane l E e3) rfl hl.1 rfl (Nat.le_of_ble_eq_true rfl) ⟨Nat.le_of_ble_eq_true rfl, Nat.le_of_ble_eq_true rfl⟩ ⟨Nat.le_of_ble_eq_true rfl, Nat.le_of_ble_eq_true rfl⟩ dX12_arePanes_3) (fun H locs X => ?_)
  refine lv_if_eq (tgt := 17) C.1 C.2.1 dX12_arePanes_6 (by decide) (fun c6 => ?_) (fun c6 => ?_)
  · replace h := ipos c6 h
    refine lv_iconst (v := 1) C.1 C.2.1 dX12_arePanes_17 (by decide) ?_
    refine lv_goto (tgt := 31) C.1 C.2.1 dX12_arePanes_18 (by decide) ?_
    obtain ⟨σ31, e31, h⟩ := bnd h
    refine pfX12 C G X (k := 399) kd_399 0 (x := (1 : Int32)) (ty := .int) rfl rfl (Nat.le_of_ble_eq_true rfl) (by decide) k_1651 rfl rfl (by decide +kernel) rfl rfl dX12_arePanes_31 (fun H locs X => ?_)
    replace X := pu_x e31 X
    rw [← Option.some.inj h]
    exact rtV C X dX12_arePanes_34
  · replace h := ineg c6 h
    refine lv_aload_n C.1 C.2.1 dX12_arePanes_9 rfl (lv_at hl 0 rfl) ?_
    refine lv_iload_n C.1 C.2.1 dX12_arePanes_10 rfl (lv_at hl 2 rfl) ?_
    obtain ⟨r11, e11, h⟩ := bnd h
    refine afI X (runV C G X q_X12_isPane k_1891 kp_54 k_1889 (rcX12 G X kd_399) (c_X12_isPane l E e11) rfl hl.1 rfl (Nat.le_of_ble_eq_true rfl) ⟨Nat.le_of_ble_eq_true rfl, Nat.le_of_ble_eq_true rfl⟩ ⟨Nat.le_of_ble_eq_true rfl, Nat.le_of_ble_eq_true rfl⟩ dX12_arePanes_11) (fun H locs X => ?_)
    refine lv_if_ne (tgt := 21) C.1 C.2.1 dX12_arePanes_14 (by decide) (fun c14 => ?_) (fun c14 => ?_)
    · replace h := ineg c14 h
      refine lv_iload_n C.1 C.2.1 dX12_arePanes_21 rfl (lv_at hl 1 rfl) ?_
      refine lv_iload_n C.1 C.2.1 dX12_arePanes_22 rfl (lv_at hl 2 rfl) ?_
      refine lv_icmp_ne (tgt := 30) C.1 C.2.1 dX12_arePanes_23 (by decide) (fun c23 => ?_) (fun c23 => ?_)
      · replace h := ineg c23 h
        refine lv_iconst (v := 0) C.1 C.2.1 dX12_arePanes_30 (by decide) ?_
        obtain ⟨σ31, e31, h⟩ := bnd h
        refine pfX12 C G X (k := 399) kd_399 0 (x := (0 : Int32)) (ty := .int) rfl rfl (Nat.le_of_ble_eq_true rfl) (by decide) k_1651 rfl rfl (by decide +kernel) rfl rfl dX12_arePanes_31 (fun H locs X => ?_)
        replace X := pu_x e31 X
        rw [← Option.some.inj h]
        exact rtV C X dX12_arePanes_34
      · replace h := ipos c23 h
        refine lv_iconst (v := 2) C.1 C.2.1 dX12_arePanes_26 (by decide) ?_
        refine lv_goto (tgt := 31) C.1 C.2.1 dX12_arePanes_27 (by decide) ?_
        obtain ⟨σ31, e31, h⟩ := bnd h
        refine pfX12 C G X (k := 399) kd_399 0 (x := (2 : Int32)) (ty := .int) rfl rfl (Nat.le_of_ble_eq_true rfl) (by decide) k_1651 rfl rfl (by decide +kernel) rfl rfl dX12_arePanes_31 (fun H locs X => ?_)
        replace X := pu_x e31 X
        rw [← Option.some.inj h]
        exact rtV C X dX12_arePanes_34
    · replace h := ipos c14 h
      refine lv_iconst (v := 1) C.1 C.2.1 dX12_arePanes_17 (by decide) ?_
      refine lv_goto (tgt := 31) C.1 C.2.1 dX12_arePanes_18 (by decide) ?_
      obtain ⟨σ31, e31, h⟩ := bnd h
      refine pfX12 C G X (k := 399) kd_399 0 (x := (1 : Int32)) (ty := .int) rfl rfl (Nat.le_of_ble_eq_true rfl) (by decide) k_1651 rfl rfl (by decide +kernel) rfl rfl dX12_arePanes_31 (fun H locs X => ?_)
      replace X := pu_x e31 X
      rw [← Option.some.inj h]
      exact rtV C X dX12_arePanes_34

theorem c_X12_arePanes (l : Launch) (E : GE) {σ : Mem} {x1 : Int32} {x2 : Int32} {r : Mem} (h : X12_arePanes x1 x2 σ = some r) : CtV l E yX12_arePanes cX12_arePanes 3 3 [.ref (gB E + 399), .int x1, .int x2] σ r := by
  refine Met.ofW (cc := cX12_arePanes) (maxL := 3) (ret := none) (by decide) rfl ?_
  intro p e s m args below meth c s₁ B hml hv
  obtain ⟨rfl, G, X⟩ := start hv
  have C := cxof B hml
  have hl := lv_entry [.ref (gB E + 399), .int x1, .int x2] (n := 3) (Nat.le_of_ble_eq_true rfl)
  rw [lg_entry_eq]
  generalize (lg_sl [.ref (gB E + 399), .int x1, .int x2] ++ List.replicate (3 - (lg_sl [.ref (gB E + 399), .int x1, .int x2]).length) Slot.unset).toArray = ls at hl ⊢
  exact w_X12_arePanes C G X hl h

set_option maxRecDepth 20000 in
theorem w_X12_isOpen {r : (Int32 × Mem)} {σ : Mem} {x1 : Int32} {x2 : Int32} {ls : Array Slot} {H : Heap} {locs : List Loc} (C : Cx p s m args meth c cX12_isOpen (some .boolean) 3 RX12) (G : Gf E s) (X : Hx E σ s H locs) (hl : lv_has ls 3 [(0, .ref (gB E + 399)), (1, .int x1), (2, .int x2)]) (h : X12_isOpen x1 x2 σ = some r) : W p l e (RM 4) s m args below meth c H locs 0 0 (QI E below args s r.1 r.2) (F0 m 0 ls []) := by
  rw [X12_isOpen] at h
  refine lv_aload_n C.1 C.2.1 dX12_isOpen_0 rfl (lv_at hl 0 rfl) ?_
  refine lv_iload_n C.1 C.2.1 dX12_isOpen_1 rfl (lv_at hl 1 rfl) ?_
  refine lv_iload_n C.1 C.2.1 dX12_isOpen_2 rfl (lv_at hl 2 rfl) ?_
  obtain ⟨σ3, e3, h⟩ := bnd h
  refine afV X (runV C G X q_X12_arePanes k_2018 kp_78 k_2016 (rcX12 G X kd_399) (c_X12_arePanes l E e3) rfl hl.1 rfl (Nat.le_of_ble_eq_true rfl) ⟨Nat.le_of_ble_eq_true rfl, Nat.le_of_ble_eq_true rfl⟩ ⟨Nat.le_of_ble_eq_true rfl, Nat.le_of_ble_eq_true rfl⟩ dX12_isOpen_3) (fun H locs X => ?_)
  refine lv_aload_n C.1 C.2.1 dX12_isOpen_6 rfl (lv_at hl 0 rfl) ?_
  refine gfX12 C G X (k := 399) kd_399 0 (v := .int (σ3 399 0)) rfl rfl (by decide) k_1651 rfl dX12_isOpen_7 ?_
  refine lv_if_ne (tgt := 26) C.1 C.2.1 dX12_isOpen_10 (by decide) (fun c10 => ?_) (fun c10 => ?_)
  · replace h := ineg c10 h
    refine lv_iconst (v := 0) C.1 C.2.1 dX12_isOpen_26 (by decide) ?_
    obtain ⟨u27, z27, h⟩ := bnd h
    rw [← Option.some.inj h]
    exact rtZ C X (gb_s z27) dX12_isOpen_27
  · replace h := ipos c10 h
    refine lv_aload_n C.1 C.2.1 dX12_isOpen_13 rfl (lv_at hl 0 rfl) ?_
    refine lv_iload_n C.1 C.2.1 dX12_isOpen_14 rfl (lv_at hl 1 rfl) ?_
    refine lv_iload_n C.1 C.2.1 dX12_isOpen_15 rfl (lv_at hl 2 rfl) ?_
    obtain ⟨r16, e16, h⟩ := bnd h
    refine afI X (runV C G X q_X12_isWay k_1951 kp_68 k_1949 (rcX12 G X kd_399) (c_X12_isWay l E e16) rfl hl.1 rfl (Nat.le_of_ble_eq_true rfl) ⟨Nat.le_of_ble_eq_true rfl, Nat.le_of_ble_eq_true rfl⟩ ⟨Nat.le_of_ble_eq_true rfl, Nat.le_of_ble_eq_true rfl⟩ dX12_isOpen_16) (fun H locs X => ?_)
    refine lv_if_eq (tgt := 26) C.1 C.2.1 dX12_isOpen_19 (by decide) (fun c19 => ?_) (fun c19 => ?_)
    · replace h := ipos c19 h
      refine lv_iconst (v := 0) C.1 C.2.1 dX12_isOpen_26 (by decide) ?_
      obtain ⟨u27, z27, h⟩ := bnd h
      rw [← Option.some.inj h]
      exact rtZ C X (gb_s z27) dX12_isOpen_27
    · replace h := ineg c19 h
      refine lv_iconst (v := 1) C.1 C.2.1 dX12_isOpen_22 (by decide) ?_
      refine lv_goto (tgt := 27) C.1 C.2.1 dX12_isOpen_23 (by decide) ?_
      obtain ⟨u27, z27, h⟩ := bnd h
      rw [← Option.some.inj h]
      exact rtZ C X (gb_s z27) dX12_isOpen_27

theorem c_X12_isOpen (l : Launch) (E : GE) {σ : Mem} {x1 : Int32} {x2 : Int32} {r : (Int32 × Mem)} (h : X12_isOpen x1 x2 σ = some r) : CtI l E yX12_isOpen cX12_isOpen 3 .boolean 4 [.ref (gB E + 399), .int x1, .int x2] σ r.1 r.2 := by
  refine Met.ofW (cc := cX12_isOpen) (maxL := 3) (ret := (some .boolean)) (by decide) rfl ?_
  intro p e s m args below meth c s₁ B hml hv
  obtain ⟨rfl, G, X⟩ := start hv
  have C := cxof B hml
  have hl := lv_entry [.ref (gB E + 399), .int x1, .int x2] (n := 3) (Nat.le_of_ble_eq_true rfl)
  rw [lg_entry_eq]
  generalize (lg_sl [.ref (gB E + 399), .int x1, .int x2] ++ List.replicate (3 - (lg_sl [.ref (gB E + 399), .int x1, .int x2]).length) Slot.unset).toArray = ls at hl ⊢
  exact w_X12_isOpen C G X hl h

set_option maxRecDepth 20000 in
theorem w_X12_remembers_52 {r : Mem} (C : Cx p s m args meth c cX12_remembers none 2 RX12) (G : Gf E s) : ∀ (f : Nat) {x1 : Int32} {σ : Mem} {ls : Array Slot} {H : Heap} {locs : List Loc}, Hx E σ s H locs → lv_has ls 2 [(0, .ref (gB E + 399)), (1, .int x1)] → X12_remembers_52 f x1 σ = some r → W p l e (RM 1) s m args below meth c H locs 0 0 (QV E below args s r) (F0 m 52 ls []) := by
  intro f
  induction f with
  | zero =>
    intro x1 σ ls H locs X hl h
    rw [X12_remembers_52] at h
    cases h
  | succ f ih =>
    intro x1 σ ls H locs X hl h
    rw [X12_remembers_52] at h
    refine lv_iload_n C.1 C.2.1 dX12_remembers_52 rfl (lv_at hl 1 rfl) ?_
    refine lv_sipush (v := 488) C.1 C.2.1 dX12_remembers_53 (by decide) ?_
    refine lv_icmp_ge (tgt := 86) C.1 C.2.1 dX12_remembers_56 (by decide) (fun c56 => ?_) (fun c56 => ?_)
    · replace h := ipos c56 h
      refine lv_aload_n C.1 C.2.1 dX12_remembers_86 rfl (lv_at hl 0 rfl) ?_
      refine lv_dup C.1 C.2.1 dX12_remembers_87 rfl ?_
      refine gfX12 C G X (k := 399) kd_399 6 (v := .int (σ 399 6)) rfl rfl (by decide) k_1657 rfl dX12_remembers_88 ?_
      refine lv_iconst (v := 1) C.1 C.2.1 dX12_remembers_91 (by decide) ?_
      refine lv_iadd C.1 C.2.1 dX12_remembers_92 ?_
      obtain ⟨σ93, e93, h⟩ := bnd h
      refine pfX12 C G X (k := 399) kd_399 6 (x := ((σ 399 6) + (1 : Int32))) (ty := .int) rfl rfl (Nat.le_of_ble_eq_true rfl) (by decide) k_1657 rfl rfl (by decide +kernel) rfl rfl dX12_remembers_93 (fun H locs X => ?_)
      replace X := pu_x e93 X
      rw [← Option.some.inj h]
      exact rtV C X dX12_remembers_96
    · replace h := ineg c56 h
      refine lv_aload_n C.1 C.2.1 dX12_remembers_59 rfl (lv_at hl 0 rfl) ?_
      refine gfX12 C G X (k := 399) kd_399 5 (v := .ref (gB E + 403)) rfl rfl (by decide) k_1656 rfl dX12_remembers_60 ?_
      refine lv_sipush (v := 488) C.1 C.2.1 dX12_remembers_63 (by decide) ?_
      refine lv_aload_n C.1 C.2.1 dX12_remembers_66 rfl (lv_at hl 0 rfl) ?_
      refine gfX12 C G X (k := 399) kd_399 6 (v := .int (σ 399 6)) rfl rfl (by decide) k_1657 rfl dX12_remembers_67 ?_
      refine lv_imul C.1 C.2.1 dX12_remembers_70 ?_
      refine lv_iload_n C.1 C.2.1 dX12_remembers_71 rfl (lv_at hl 1 rfl) ?_
      refine lv_iadd C.1 C.2.1 dX12_remembers_72 ?_
      refine lv_aload_n C.1 C.2.1 dX12_remembers_73 rfl (lv_at hl 0 rfl) ?_
      refine gfX12 C G X (k := 399) kd_399 1 (v := .ref (gB E + 400)) rfl rfl (by decide) k_1652 rfl dX12_remembers_74 ?_
      refine lv_iload_n C.1 C.2.1 dX12_remembers_77 rfl (lv_at hl 1 rfl) ?_
      obtain ⟨r78, e78, h⟩ := bnd h
      refine ald C G X (k := 400) kd_400 (ag_s e78).1 dX12_remembers_78 ?_
      rw [(ag_s e78).2]
      obtain ⟨σ79, e79, h⟩ := bnd h
      refine ast C G X (k := 403) kd_403 (au_s e79).1 dX12_remembers_79 (fun H locs X => ?_)
      rw [(au_s e79).2] at X
      refine lv_iinc (v := (x1 + 1)) (lv' := [(1, .int (x1 + 1)), (0, .ref (gB E + 399))]) C.1 C.2.1 dX12_remembers_80 hl (k := 1) rfl rfl (by decide) rfl (fun ls hl => ?_)
      refine lv_goto (tgt := 52) C.1 C.2.1 dX12_remembers_83 (by decide) ?_
      exact ih X (lv_sub hl [1, 0] rfl) h

set_option maxRecDepth 20000 in
theorem w_X12_remembers_50 {r : Mem} {σ : Mem} {ls : Array Slot} {H : Heap} {locs : List Loc} (C : Cx p s m args meth c cX12_remembers none 2 RX12) (G : Gf E s) (X : Hx E σ s H locs) (hl : lv_has ls 2 [(0, .ref (gB E + 399))]) (h : X12_remembers_50 σ = some r) : W p l e (RM 1) s m args below meth c H locs 0 0 (QV E below args s r) (F0 m 50 ls []) := by
  rw [X12_remembers_50] at h
  refine lv_iconst (v := 0) C.1 C.2.1 dX12_remembers_50 (by decide) ?_
  refine lv_istore_n (lv' := [(1, .int (0 : Int32)), (0, .ref (gB E + 399))]) C.1 C.2.1 dX12_remembers_51 rfl hl (by decide) rfl (fun ls hl => ?_)
  exact w_X12_remembers_52 C G FU X (lv_sub hl [1, 0] rfl) h

set_option maxRecDepth 20000 in
theorem w_X12_remembers_11 {r : Mem} (C : Cx p s m args meth c cX12_remembers none 2 RX12) (G : Gf E s) : ∀ (f : Nat) {x1 : Int32} {σ : Mem} {ls : Array Slot} {H : Heap} {locs : List Loc}, Hx E σ s H locs → lv_has ls 2 [(0, .ref (gB E + 399)), (1, .int x1)] → X12_remembers_11 f x1 σ = some r → W p l e (RM 1) s m args below meth c H locs 0 0 (QV E below args s r) (F0 m 11 ls []) := by
  intro f
  induction f with
  | zero =>
    intro x1 σ ls H locs X hl h
    rw [X12_remembers_11] at h
    cases h
  | succ f ih =>
    intro x1 σ ls H locs X hl h
    rw [X12_remembers_11] at h
    refine lv_iload_n C.1 C.2.1 dX12_remembers_11 rfl (lv_at hl 1 rfl) ?_
    refine lv_sipush (v := 5368) C.1 C.2.1 dX12_remembers_12 (by decide) ?_
    refine lv_icmp_ge (tgt := 40) C.1 C.2.1 dX12_remembers_15 (by decide) (fun c15 => ?_) (fun c15 => ?_)
    · replace h := ipos c15 h
      refine lv_aload_n C.1 C.2.1 dX12_remembers_40 rfl (lv_at hl 0 rfl) ?_
      refine lv_dup C.1 C.2.1 dX12_remembers_41 rfl ?_
      refine gfX12 C G X (k := 399) kd_399 6 (v := .int (σ 399 6)) rfl rfl (by decide) k_1657 rfl dX12_remembers_42 ?_
      refine lv_iconst (v := 1) C.1 C.2.1 dX12_remembers_45 (by decide) ?_
      refine lv_isub C.1 C.2.1 dX12_remembers_46 ?_
      obtain ⟨σ47, e47, h⟩ := bnd h
      refine pfX12 C G X (k := 399) kd_399 6 (x := ((σ 399 6) - (1 : Int32))) (ty := .int) rfl rfl (Nat.le_of_ble_eq_true rfl) (by decide) k_1657 rfl rfl (by decide +kernel) rfl rfl dX12_remembers_47 (fun H locs X => ?_)
      replace X := pu_x e47 X
      exact w_X12_remembers_50 C G X (lv_sub hl [0] rfl) h
    · replace h := ineg c15 h
      refine lv_aload_n C.1 C.2.1 dX12_remembers_18 rfl (lv_at hl 0 rfl) ?_
      refine gfX12 C G X (k := 399) kd_399 5 (v := .ref (gB E + 403)) rfl rfl (by decide) k_1656 rfl dX12_remembers_19 ?_
      refine lv_iload_n C.1 C.2.1 dX12_remembers_22 rfl (lv_at hl 1 rfl) ?_
      refine lv_aload_n C.1 C.2.1 dX12_remembers_23 rfl (lv_at hl 0 rfl) ?_
      refine gfX12 C G X (k := 399) kd_399 5 (v := .ref (gB E + 403)) rfl rfl (by decide) k_1656 rfl dX12_remembers_24 ?_
      refine lv_iload_n C.1 C.2.1 dX12_remembers_27 rfl (lv_at hl 1 rfl) ?_
      refine lv_sipush (v := 488) C.1 C.2.1 dX12_remembers_28 (by decide) ?_
      refine lv_iadd C.1 C.2.1 dX12_remembers_31 ?_
      obtain ⟨r32, e32, h⟩ := bnd h
      refine ald C G X (k := 403) kd_403 (ag_s e32).1 dX12_remembers_32 ?_
      rw [(ag_s e32).2]
      obtain ⟨σ33, e33, h⟩ := bnd h
      refine ast C G X (k := 403) kd_403 (au_s e33).1 dX12_remembers_33 (fun H locs X => ?_)
      rw [(au_s e33).2] at X
      refine lv_iinc (v := (x1 + 1)) (lv' := [(1, .int (x1 + 1)), (0, .ref (gB E + 399))]) C.1 C.2.1 dX12_remembers_34 hl (k := 1) rfl rfl (by decide) rfl (fun ls hl => ?_)
      refine lv_goto (tgt := 11) C.1 C.2.1 dX12_remembers_37 (by decide) ?_
      exact ih X (lv_sub hl [1, 0] rfl) h

set_option maxRecDepth 20000 in
theorem w_X12_remembers {r : Mem} {σ : Mem} {ls : Array Slot} {H : Heap} {locs : List Loc} (C : Cx p s m args meth c cX12_remembers none 2 RX12) (G : Gf E s) (X : Hx E σ s H locs) (hl : lv_has ls 2 [(0, .ref (gB E + 399))]) (h : X12_remembers σ = some r) : W p l e (RM 1) s m args below meth c H locs 0 0 (QV E below args s r) (F0 m 0 ls []) := by
  rw [X12_remembers] at h
  refine lv_aload_n C.1 C.2.1 dX12_remembers_0 rfl (lv_at hl 0 rfl) ?_
  refine gfX12 C G X (k := 399) kd_399 6 (v := .int (σ 399 6)) rfl rfl (by decide) k_1657 rfl dX12_remembers_1 ?_
  refine lv_bipush (v := 12) C.1 C.2.1 dX12_remembers_4 (by decide) ?_
  refine lv_icmp_ne (tgt := 50) C.1 C.2.1 dX12_remembers_6 (by decide) (fun c6 => ?_) (fun c6 => ?_)
  · replace h := ineg c6 h
    exact w_X12_remembers_50 C G X (lv_sub hl [0] rfl) h
  · replace h := ipos c6 h
    refine lv_iconst (v := 0) C.1 C.2.1 dX12_remembers_9 (by decide) ?_
    refine lv_istore_n (lv' := [(1, .int (0 : Int32)), (0, .ref (gB E + 399))]) C.1 C.2.1 dX12_remembers_10 rfl hl (by decide) rfl (fun ls hl => ?_)
    exact w_X12_remembers_11 C G FU X (lv_sub hl [1, 0] rfl) h

theorem c_X12_remembers (l : Launch) (E : GE) {σ : Mem} {r : Mem} (h : X12_remembers σ = some r) : CtV l E yX12_remembers cX12_remembers 2 1 [.ref (gB E + 399)] σ r := by
  refine Met.ofW (cc := cX12_remembers) (maxL := 2) (ret := none) (by decide) rfl ?_
  intro p e s m args below meth c s₁ B hml hv
  obtain ⟨rfl, G, X⟩ := start hv
  have C := cxof B hml
  have hl := lv_entry [.ref (gB E + 399)] (n := 2) (Nat.le_of_ble_eq_true rfl)
  rw [lg_entry_eq]
  generalize (lg_sl [.ref (gB E + 399)] ++ List.replicate (2 - (lg_sl [.ref (gB E + 399)]).length) Slot.unset).toArray = ls at hl ⊢
  exact w_X12_remembers C G X hl h

set_option maxRecDepth 20000 in
theorem w_X12_sets {r : (Int32 × Mem)} {σ : Mem} {x1 : Int32} {x2 : Int32} {ls : Array Slot} {H : Heap} {locs : List Loc} (C : Cx p s m args meth c cX12_sets (some .int) 4 RX12) (G : Gf E s) (X : Hx E σ s H locs) (hl : lv_has ls 4 [(0, .ref (gB E + 399)), (1, .int x1), (2, .int x2)]) (h : X12_sets x1 x2 σ = some r) : W p l e (RM 2) s m args below meth c H locs 0 0 (QI E below args s r.1 r.2) (F0 m 0 ls []) := by
  rw [X12_sets] at h
  refine lv_aload_n C.1 C.2.1 dX12_sets_0 rfl (lv_at hl 0 rfl) ?_
  obtain ⟨σ1, e1, h⟩ := bnd h
  refine afV X (runV C G X q_X12_remembers k_2026 kp_79 k_2024 (rcX12 G X kd_399) (c_X12_remembers l E e1) rfl hl.1 rfl (Nat.le_of_ble_eq_true rfl) ⟨Nat.le_of_ble_eq_true rfl, Nat.le_of_ble_eq_true rfl⟩ ⟨Nat.le_of_ble_eq_true rfl, Nat.le_of_ble_eq_true rfl⟩ dX12_sets_1) (fun H locs X => ?_)
  refine lv_aload_n C.1 C.2.1 dX12_sets_4 rfl (lv_at hl 0 rfl) ?_
  refine gfX12 C G X (k := 399) kd_399 1 (v := .ref (gB E + 400)) rfl rfl (by decide) k_1652 rfl dX12_sets_5 ?_
  refine lv_iload_n C.1 C.2.1 dX12_sets_8 rfl (lv_at hl 1 rfl) ?_
  obtain ⟨r9, e9, h⟩ := bnd h
  refine ald C G X (k := 400) kd_400 (ag_s e9).1 dX12_sets_9 ?_
  rw [(ag_s e9).2]
  refine lv_istore_n (lv' := [(3, .int r9), (0, .ref (gB E + 399)), (1, .int x1), (2, .int x2)]) C.1 C.2.1 dX12_sets_10 rfl hl (by decide) rfl (fun ls hl => ?_)
  refine lv_aload_n C.1 C.2.1 dX12_sets_11 rfl (lv_at hl 1 rfl) ?_
  refine gfX12 C G X (k := 399) kd_399 1 (v := .ref (gB E + 400)) rfl rfl (by decide) k_1652 rfl dX12_sets_12 ?_
  refine lv_iload_n C.1 C.2.1 dX12_sets_15 rfl (lv_at hl 2 rfl) ?_
  refine lv_iload_n C.1 C.2.1 dX12_sets_16 rfl (lv_at hl 3 rfl) ?_
  obtain ⟨σ17, e17, h⟩ := bnd h
  refine ast C G X (k := 400) kd_400 (au_s e17).1 dX12_sets_17 (fun H locs X => ?_)
  rw [(au_s e17).2] at X
  refine lv_iload_n C.1 C.2.1 dX12_sets_18 rfl (lv_at hl 0 rfl) ?_
  rw [← Option.some.inj h]
  exact rtI C X dX12_sets_19

theorem c_X12_sets (l : Launch) (E : GE) {σ : Mem} {x1 : Int32} {x2 : Int32} {r : (Int32 × Mem)} (h : X12_sets x1 x2 σ = some r) : CtI l E yX12_sets cX12_sets 4 .int 2 [.ref (gB E + 399), .int x1, .int x2] σ r.1 r.2 := by
  refine Met.ofW (cc := cX12_sets) (maxL := 4) (ret := (some .int)) (by decide) rfl ?_
  intro p e s m args below meth c s₁ B hml hv
  obtain ⟨rfl, G, X⟩ := start hv
  have C := cxof B hml
  have hl := lv_entry [.ref (gB E + 399), .int x1, .int x2] (n := 4) (Nat.le_of_ble_eq_true rfl)
  rw [lg_entry_eq]
  generalize (lg_sl [.ref (gB E + 399), .int x1, .int x2] ++ List.replicate (4 - (lg_sl [.ref (gB E + 399), .int x1, .int x2]).length) Slot.unset).toArray = ls at hl ⊢
  exact w_X12_sets C G X hl h

set_option maxRecDepth 20000 in
theorem w_X12_hours_16 {r : (Int32 × Mem)} {σ : Mem} {x1 : Int32} {y1 : Int32} {ls : Array Slot} {H : Heap} {locs : List Loc} (C : Cx p s m args meth c cX12_hours (some .int) 2 RX12) (G : Gf E s) (X : Hx E σ s H locs) (hl : lv_has ls 2 [(0, .ref (gB E + 399)), (1, .int x1)]) (h : X12_hours_16 x1 y1 σ = some r) : W p l e (RM 208) s m args below meth c H locs 0 0 (QI E below args s r.1 r.2) (F0 m 16 ls [.int y1, .ref (gB E + 399)]) := by
  rw [X12_hours_16] at h
  obtain ⟨σ16, e16, h⟩ := bnd h
  refine pfX12 C G X (k := 399) kd_399 0 (x := y1) (ty := .int) rfl rfl (Nat.le_of_ble_eq_true rfl) (by decide) k_1651 rfl rfl (by decide +kernel) rfl rfl dX12_hours_16 (fun H locs X => ?_)
  replace X := pu_x e16 X
  refine lv_aload_n C.1 C.2.1 dX12_hours_19 rfl (lv_at hl 0 rfl) ?_
  refine gfX12 C G X (k := 399) kd_399 0 (v := .int (σ16 399 0)) rfl rfl (by decide) k_1651 rfl dX12_hours_20 ?_
  refine lv_if_le (tgt := 28) C.1 C.2.1 dX12_hours_23 (by decide) (fun c23 => ?_) (fun c23 => ?_)
  · replace h := ipos c23 h
    refine lv_aload_n C.1 C.2.1 dX12_hours_28 rfl (lv_at hl 0 rfl) ?_
    obtain ⟨σ29, e29, h⟩ := bnd h
    refine afV X (runV C G X q_X12_remembers k_2026 kp_79 k_2024 (rcX12 G X kd_399) (c_X12_remembers l E e29) rfl hl.1 rfl (Nat.le_of_ble_eq_true rfl) ⟨Nat.le_of_ble_eq_true rfl, Nat.le_of_ble_eq_true rfl⟩ ⟨Nat.le_of_ble_eq_true rfl, Nat.le_of_ble_eq_true rfl⟩ dX12_hours_29) (fun H locs X => ?_)
    refine lv_aload_n C.1 C.2.1 dX12_hours_32 rfl (lv_at hl 0 rfl) ?_
    refine lv_iload_n C.1 C.2.1 dX12_hours_33 rfl (lv_at hl 1 rfl) ?_
    refine lv_iconst (v := 1) C.1 C.2.1 dX12_hours_34 (by decide) ?_
    obtain ⟨r35, σ35, e35, h⟩ := bnd2 h
    refine afI (r0 := r35) (σ' := σ35) X (runV C G X q_X12_goes k_2030 kp_80 k_2028 (rcX12 G X kd_399) (c_X12_goes l E e35) rfl hl.1 rfl (Nat.le_of_ble_eq_true rfl) ⟨Nat.le_of_ble_eq_true rfl, Nat.le_of_ble_eq_true rfl⟩ ⟨Nat.le_of_ble_eq_true rfl, Nat.le_of_ble_eq_true rfl⟩ dX12_hours_35) (fun H locs X => ?_)
    rw [← Option.some.inj h]
    exact rtI C X dX12_hours_38
  · replace h := ineg c23 h
    refine lv_iconst (v := 0) C.1 C.2.1 dX12_hours_26 (by decide) ?_
    rw [← Option.some.inj h]
    exact rtI C X dX12_hours_27

set_option maxRecDepth 20000 in
theorem w_X12_hours {r : (Int32 × Mem)} {σ : Mem} {x1 : Int32} {ls : Array Slot} {H : Heap} {locs : List Loc} (C : Cx p s m args meth c cX12_hours (some .int) 2 RX12) (G : Gf E s) (X : Hx E σ s H locs) (hl : lv_has ls 2 [(0, .ref (gB E + 399)), (1, .int x1)]) (h : X12_hours x1 σ = some r) : W p l e (RM 208) s m args below meth c H locs 0 0 (QI E below args s r.1 r.2) (F0 m 0 ls []) := by
  rw [X12_hours] at h
  refine lv_aload_n C.1 C.2.1 dX12_hours_0 rfl (lv_at hl 0 rfl) ?_
  refine lv_iload_n C.1 C.2.1 dX12_hours_1 rfl (lv_at hl 1 rfl) ?_
  refine lv_iconst (v := 1) C.1 C.2.1 dX12_hours_2 (by decide) ?_
  refine lv_bipush (v := 60) C.1 C.2.1 dX12_hours_3 (by decide) ?_
  obtain ⟨r5, e5, h⟩ := bnd h
  refine afI X (runS C G X q_X12_isIn k_1734 k_1733 (c_X12_isIn l E e5) rfl hl.1 rfl (Nat.le_of_ble_eq_true rfl) ⟨Nat.le_of_ble_eq_true rfl, Nat.le_of_ble_eq_true rfl⟩ ⟨Nat.le_of_ble_eq_true rfl, Nat.le_of_ble_eq_true rfl⟩ dX12_hours_5) (fun H locs X => ?_)
  refine lv_if_ne (tgt := 15) C.1 C.2.1 dX12_hours_8 (by decide) (fun c8 => ?_) (fun c8 => ?_)
  · replace h := ineg c8 h
    refine lv_iconst (v := 0) C.1 C.2.1 dX12_hours_15 (by decide) ?_
    exact w_X12_hours_16 C G X (lv_sub hl [0, 1] rfl) h
  · replace h := ipos c8 h
    refine lv_iconst (v := 1) C.1 C.2.1 dX12_hours_11 (by decide) ?_
    refine lv_goto (tgt := 16) C.1 C.2.1 dX12_hours_12 (by decide) ?_
    exact w_X12_hours_16 C G X (lv_sub hl [0, 1] rfl) h

theorem c_X12_hours (l : Launch) (E : GE) {σ : Mem} {x1 : Int32} {r : (Int32 × Mem)} (h : X12_hours x1 σ = some r) : CtI l E yX12_hours cX12_hours 2 .int 208 [.ref (gB E + 399), .int x1] σ r.1 r.2 := by
  refine Met.ofW (cc := cX12_hours) (maxL := 2) (ret := (some .int)) (by decide) rfl ?_
  intro p e s m args below meth c s₁ B hml hv
  obtain ⟨rfl, G, X⟩ := start hv
  have C := cxof B hml
  have hl := lv_entry [.ref (gB E + 399), .int x1] (n := 2) (Nat.le_of_ble_eq_true rfl)
  rw [lg_entry_eq]
  generalize (lg_sl [.ref (gB E + 399), .int x1] ++ List.replicate (2 - (lg_sl [.ref (gB E + 399), .int x1]).length) Slot.unset).toArray = ls at hl ⊢
  exact w_X12_hours C G X hl h

set_option maxRecDepth 20000 in
theorem w_X12_heads_27 {r : (Int32 × Mem)} {σ : Mem} {x1 : Int32} {x2 : Int32} {y1 : Int32} {ls : Array Slot} {H : Heap} {locs : List Loc} (C : Cx p s m args meth c cX12_heads (some .int) 3 RX12) (G : Gf E s) (X : Hx E σ s H locs) (hl : lv_has ls 3 [(0, .ref (gB E + 399)), (1, .int x1), (2, .int x2)]) (h : X12_heads_27 x1 x2 y1 σ = some r) : W p l e (RM 3) s m args below meth c H locs 0 0 (QI E below args s r.1 r.2) (F0 m 27 ls [.int y1, .ref (gB E + 399)]) := by
  rw [X12_heads_27] at h
  obtain ⟨σ27, e27, h⟩ := bnd h
  refine pfX12 C G X (k := 399) kd_399 0 (x := y1) (ty := .int) rfl rfl (Nat.le_of_ble_eq_true rfl) (by decide) k_1651 rfl rfl (by decide +kernel) rfl rfl dX12_heads_27 (fun H locs X => ?_)
  replace X := pu_x e27 X
  refine lv_aload_n C.1 C.2.1 dX12_heads_30 rfl (lv_at hl 0 rfl) ?_
  refine gfX12 C G X (k := 399) kd_399 0 (v := .int (σ27 399 0)) rfl rfl (by decide) k_1651 rfl dX12_heads_31 ?_
  refine lv_if_le (tgt := 41) C.1 C.2.1 dX12_heads_34 (by decide) (fun c34 => ?_) (fun c34 => ?_)
  · replace h := ipos c34 h
    refine lv_aload_n C.1 C.2.1 dX12_heads_41 rfl (lv_at hl 0 rfl) ?_
    refine lv_sipush (v := 128) C.1 C.2.1 dX12_heads_42 (by decide) ?_
    refine lv_iconst (v := 4) C.1 C.2.1 dX12_heads_45 (by decide) ?_
    refine lv_iload_n C.1 C.2.1 dX12_heads_46 rfl (lv_at hl 1 rfl) ?_
    refine lv_imul C.1 C.2.1 dX12_heads_47 ?_
    refine lv_iadd C.1 C.2.1 dX12_heads_48 ?_
    refine lv_iconst (v := 2) C.1 C.2.1 dX12_heads_49 (by decide) ?_
    refine lv_iadd C.1 C.2.1 dX12_heads_50 ?_
    refine lv_iload_n C.1 C.2.1 dX12_heads_51 rfl (lv_at hl 2 rfl) ?_
    obtain ⟨r52, σ52, e52, h⟩ := bnd2 h
    refine afI (r0 := r52) (σ' := σ52) X (runV C G X q_X12_sets k_2038 kp_81 k_2036 (rcX12 G X kd_399) (c_X12_sets l E e52) rfl hl.1 rfl (Nat.le_of_ble_eq_true rfl) ⟨Nat.le_of_ble_eq_true rfl, Nat.le_of_ble_eq_true rfl⟩ ⟨Nat.le_of_ble_eq_true rfl, Nat.le_of_ble_eq_true rfl⟩ dX12_heads_52) (fun H locs X => ?_)
    rw [← Option.some.inj h]
    exact rtI C X dX12_heads_55
  · replace h := ineg c34 h
    refine lv_iconst (v := 0) C.1 C.2.1 dX12_heads_37 (by decide) ?_
    refine lv_goto (tgt := 55) C.1 C.2.1 dX12_heads_38 (by decide) ?_
    rw [← Option.some.inj h]
    exact rtI C X dX12_heads_55

set_option maxRecDepth 20000 in
theorem w_X12_heads_22 {r : (Int32 × Mem)} {σ : Mem} {x1 : Int32} {x2 : Int32} {ls : Array Slot} {H : Heap} {locs : List Loc} (C : Cx p s m args meth c cX12_heads (some .int) 3 RX12) (G : Gf E s) (X : Hx E σ s H locs) (hl : lv_has ls 3 [(0, .ref (gB E + 399)), (1, .int x1), (2, .int x2)]) (h : X12_heads_22 x1 x2 σ = some r) : W p l e (RM 3) s m args below meth c H locs 0 0 (QI E below args s r.1 r.2) (F0 m 22 ls [.ref (gB E + 399)]) := by
  rw [X12_heads_22] at h
  refine lv_iconst (v := 1) C.1 C.2.1 dX12_heads_22 (by decide) ?_
  refine lv_goto (tgt := 27) C.1 C.2.1 dX12_heads_23 (by decide) ?_
  exact w_X12_heads_27 C G X (lv_sub hl [0, 1, 2] rfl) h

set_option maxRecDepth 20000 in
theorem w_X12_heads_26 {r : (Int32 × Mem)} {σ : Mem} {x1 : Int32} {x2 : Int32} {ls : Array Slot} {H : Heap} {locs : List Loc} (C : Cx p s m args meth c cX12_heads (some .int) 3 RX12) (G : Gf E s) (X : Hx E σ s H locs) (hl : lv_has ls 3 [(0, .ref (gB E + 399)), (1, .int x1), (2, .int x2)]) (h : X12_heads_26 x1 x2 σ = some r) : W p l e (RM 3) s m args below meth c H locs 0 0 (QI E below args s r.1 r.2) (F0 m 26 ls [.ref (gB E + 399)]) := by
  rw [X12_heads_26] at h
  refine lv_iconst (v := 0) C.1 C.2.1 dX12_heads_26 (by decide) ?_
  exact w_X12_heads_27 C G X (lv_sub hl [0, 1, 2] rfl) h

set_option maxRecDepth 20000 in
theorem w_X12_heads {r : (Int32 × Mem)} {σ : Mem} {x1 : Int32} {x2 : Int32} {ls : Array Slot} {H : Heap} {locs : List Loc} (C : Cx p s m args meth c cX12_heads (some .int) 3 RX12) (G : Gf E s) (X : Hx E σ s H locs) (hl : lv_has ls 3 [(0, .ref (gB E + 399)), (1, .int x1), (2, .int x2)]) (h : X12_heads x1 x2 σ = some r) : W p l e (RM 3) s m args below meth c H locs 0 0 (QI E below args s r.1 r.2) (F0 m 0 ls []) := by
  rw [X12_heads] at h
  refine lv_aload_n C.1 C.2.1 dX12_heads_0 rfl (lv_at hl 0 rfl) ?_
  refine lv_aload_n C.1 C.2.1 dX12_heads_1 rfl (lv_at hl 0 rfl) ?_
  refine lv_iload_n C.1 C.2.1 dX12_heads_2 rfl (lv_at hl 1 rfl) ?_
  obtain ⟨r3, e3, h⟩ := bnd h
  refine afI X (runV C G X q_X12_isWalker k_1977 kp_72 k_1975 (rcX12 G X kd_399) (c_X12_isWalker l E e3) rfl hl.1 rfl (Nat.le_of_ble_eq_true rfl) ⟨Nat.le_of_ble_eq_true rfl, Nat.le_of_ble_eq_true rfl⟩ ⟨Nat.le_of_ble_eq_true rfl, Nat.le_of_ble_eq_true rfl⟩ dX12_heads_3) (fun H locs X => ?_)
  refine lv_if_eq (tgt := 22) C.1 C.2.1 dX12_heads_6 (by decide) (fun c6 => ?_) (fun c6 => ?_)
  · replace h := ipos c6 h
    exact w_X12_heads_22 C G X (lv_sub hl [0, 1, 2] rfl) h
  · replace h := ineg c6 h
    refine lv_iload_n C.1 C.2.1 dX12_heads_9 rfl (lv_at hl 2 rfl) ?_
    refine lv_iconst (v := -1) C.1 C.2.1 dX12_heads_10 (by decide) ?_
    refine lv_icmp_eq (tgt := 26) C.1 C.2.1 dX12_heads_11 (by decide) (fun c11 => ?_) (fun c11 => ?_)
    · replace h := ipos c11 h
      exact w_X12_heads_26 C G X (lv_sub hl [0, 1, 2] rfl) h
    · replace h := ineg c11 h
      refine lv_aload_n C.1 C.2.1 dX12_heads_14 rfl (lv_at hl 0 rfl) ?_
      refine lv_iload_n C.1 C.2.1 dX12_heads_15 rfl (lv_at hl 2 rfl) ?_
      obtain ⟨r16, e16, h⟩ := bnd h
      refine afI X (runV C G X q_X12_isPane k_1891 kp_54 k_1889 (rcX12 G X kd_399) (c_X12_isPane l E e16) rfl hl.1 rfl (Nat.le_of_ble_eq_true rfl) ⟨Nat.le_of_ble_eq_true rfl, Nat.le_of_ble_eq_true rfl⟩ ⟨Nat.le_of_ble_eq_true rfl, Nat.le_of_ble_eq_true rfl⟩ dX12_heads_16) (fun H locs X => ?_)
      refine lv_if_ne (tgt := 26) C.1 C.2.1 dX12_heads_19 (by decide) (fun c19 => ?_) (fun c19 => ?_)
      · replace h := ineg c19 h
        exact w_X12_heads_26 C G X (lv_sub hl [0, 1, 2] rfl) h
      · replace h := ipos c19 h
        exact w_X12_heads_22 C G X (lv_sub hl [0, 1, 2] rfl) h

theorem c_X12_heads (l : Launch) (E : GE) {σ : Mem} {x1 : Int32} {x2 : Int32} {r : (Int32 × Mem)} (h : X12_heads x1 x2 σ = some r) : CtI l E yX12_heads cX12_heads 3 .int 3 [.ref (gB E + 399), .int x1, .int x2] σ r.1 r.2 := by
  refine Met.ofW (cc := cX12_heads) (maxL := 3) (ret := (some .int)) (by decide) rfl ?_
  intro p e s m args below meth c s₁ B hml hv
  obtain ⟨rfl, G, X⟩ := start hv
  have C := cxof B hml
  have hl := lv_entry [.ref (gB E + 399), .int x1, .int x2] (n := 3) (Nat.le_of_ble_eq_true rfl)
  rw [lg_entry_eq]
  generalize (lg_sl [.ref (gB E + 399), .int x1, .int x2] ++ List.replicate (3 - (lg_sl [.ref (gB E + 399), .int x1, .int x2]).length) Slot.unset).toArray = ls at hl ⊢
  exact w_X12_heads C G X hl h

set_option maxRecDepth 20000 in
theorem w_X12_strike_77 {r : (Int32 × Mem)} {σ : Mem} {x1 : Int32} {x2 : Int32} {y1 : Int32} {ls : Array Slot} {H : Heap} {locs : List Loc} (C : Cx p s m args meth c cX12_strike (some .int) 3 RX12) (G : Gf E s) (X : Hx E σ s H locs) (hl : lv_has ls 3 [(0, .ref (gB E + 399)), (1, .int x1), (2, .int x2)]) (h : X12_strike_77 x1 x2 y1 σ = some r) : W p l e (RM 4) s m args below meth c H locs 0 0 (QI E below args s r.1 r.2) (F0 m 77 ls [.int y1, .ref (gB E + 399)]) := by
  rw [X12_strike_77] at h
  obtain ⟨σ77, e77, h⟩ := bnd h
  refine pfX12 C G X (k := 399) kd_399 0 (x := y1) (ty := .int) rfl rfl (Nat.le_of_ble_eq_true rfl) (by decide) k_1651 rfl rfl (by decide +kernel) rfl rfl dX12_strike_77 (fun H locs X => ?_)
  replace X := pu_x e77 X
  refine lv_aload_n C.1 C.2.1 dX12_strike_80 rfl (lv_at hl 0 rfl) ?_
  refine gfX12 C G X (k := 399) kd_399 0 (v := .int (σ77 399 0)) rfl rfl (by decide) k_1651 rfl dX12_strike_81 ?_
  refine lv_if_le (tgt := 89) C.1 C.2.1 dX12_strike_84 (by decide) (fun c84 => ?_) (fun c84 => ?_)
  · replace h := ipos c84 h
    refine lv_aload_n C.1 C.2.1 dX12_strike_89 rfl (lv_at hl 0 rfl) ?_
    obtain ⟨σ90, e90, h⟩ := bnd h
    refine afV X (runV C G X q_X12_remembers k_2026 kp_79 k_2024 (rcX12 G X kd_399) (c_X12_remembers l E e90) rfl hl.1 rfl (Nat.le_of_ble_eq_true rfl) ⟨Nat.le_of_ble_eq_true rfl, Nat.le_of_ble_eq_true rfl⟩ ⟨Nat.le_of_ble_eq_true rfl, Nat.le_of_ble_eq_true rfl⟩ dX12_strike_90) (fun H locs X => ?_)
    refine lv_aload_n C.1 C.2.1 dX12_strike_93 rfl (lv_at hl 0 rfl) ?_
    refine lv_iload_n C.1 C.2.1 dX12_strike_94 rfl (lv_at hl 1 rfl) ?_
    refine lv_iload_n C.1 C.2.1 dX12_strike_95 rfl (lv_at hl 2 rfl) ?_
    refine lv_iconst (v := 1) C.1 C.2.1 dX12_strike_96 (by decide) ?_
    obtain ⟨σ97, e97, h⟩ := bnd h
    refine afV X (runV C G X q_X12_kindles k_1955 kp_69 k_1953 (rcX12 G X kd_399) (c_X12_kindles l E e97) rfl hl.1 rfl (Nat.le_of_ble_eq_true rfl) ⟨Nat.le_of_ble_eq_true rfl, Nat.le_of_ble_eq_true rfl⟩ ⟨Nat.le_of_ble_eq_true rfl, Nat.le_of_ble_eq_true rfl⟩ dX12_strike_97) (fun H locs X => ?_)
    refine lv_aload_n C.1 C.2.1 dX12_strike_100 rfl (lv_at hl 0 rfl) ?_
    refine lv_iload_n C.1 C.2.1 dX12_strike_101 rfl (lv_at hl 1 rfl) ?_
    refine lv_iconst (v := 1) C.1 C.2.1 dX12_strike_102 (by decide) ?_
    obtain ⟨r103, e103, h⟩ := bnd h
    refine afI X (runV C G X q_X12_ofWalker k_1915 kp_60 k_1913 (rcX12 G X kd_399) (c_X12_ofWalker l E e103) rfl hl.1 rfl (Nat.le_of_ble_eq_true rfl) ⟨Nat.le_of_ble_eq_true rfl, Nat.le_of_ble_eq_true rfl⟩ ⟨Nat.le_of_ble_eq_true rfl, Nat.le_of_ble_eq_true rfl⟩ dX12_strike_103) (fun H locs X => ?_)
    rw [← Option.some.inj h]
    exact rtI C X dX12_strike_106
  · replace h := ineg c84 h
    refine lv_iconst (v := 0) C.1 C.2.1 dX12_strike_87 (by decide) ?_
    rw [← Option.some.inj h]
    exact rtI C X dX12_strike_88

set_option maxRecDepth 20000 in
theorem w_X12_strike_72 {r : (Int32 × Mem)} {σ : Mem} {x1 : Int32} {x2 : Int32} {ls : Array Slot} {H : Heap} {locs : List Loc} (C : Cx p s m args meth c cX12_strike (some .int) 3 RX12) (G : Gf E s) (X : Hx E σ s H locs) (hl : lv_has ls 3 [(0, .ref (gB E + 399)), (1, .int x1), (2, .int x2)]) (h : X12_strike_72 x1 x2 σ = some r) : W p l e (RM 4) s m args below meth c H locs 0 0 (QI E below args s r.1 r.2) (F0 m 72 ls [.ref (gB E + 399)]) := by
  rw [X12_strike_72] at h
  refine lv_iconst (v := 2) C.1 C.2.1 dX12_strike_72 (by decide) ?_
  refine lv_goto (tgt := 77) C.1 C.2.1 dX12_strike_73 (by decide) ?_
  exact w_X12_strike_77 C G X (lv_sub hl [0, 1, 2] rfl) h

set_option maxRecDepth 20000 in
theorem w_X12_strike_14 {r : (Int32 × Mem)} {σ : Mem} {x1 : Int32} {y1 : Int32} {ls : Array Slot} {H : Heap} {locs : List Loc} (C : Cx p s m args meth c cX12_strike (some .int) 3 RX12) (G : Gf E s) (X : Hx E σ s H locs) (hl : lv_has ls 3 [(0, .ref (gB E + 399)), (1, .int x1)]) (h : X12_strike_14 x1 y1 σ = some r) : W p l e (RM 4) s m args below meth c H locs 0 0 (QI E below args s r.1 r.2) (F0 m 14 ls [.int y1, .ref (gB E + 399)]) := by
  rw [X12_strike_14] at h
  obtain ⟨σ14, e14, h⟩ := bnd h
  refine pfX12 C G X (k := 399) kd_399 0 (x := y1) (ty := .int) rfl rfl (Nat.le_of_ble_eq_true rfl) (by decide) k_1651 rfl rfl (by decide +kernel) rfl rfl dX12_strike_14 (fun H locs X => ?_)
  replace X := pu_x e14 X
  refine lv_aload_n C.1 C.2.1 dX12_strike_17 rfl (lv_at hl 0 rfl) ?_
  refine gfX12 C G X (k := 399) kd_399 0 (v := .int (σ14 399 0)) rfl rfl (by decide) k_1651 rfl dX12_strike_18 ?_
  refine lv_if_le (tgt := 26) C.1 C.2.1 dX12_strike_21 (by decide) (fun c21 => ?_) (fun c21 => ?_)
  · replace h := ipos c21 h
    refine lv_aload_n C.1 C.2.1 dX12_strike_26 rfl (lv_at hl 0 rfl) ?_
    refine lv_iload_n C.1 C.2.1 dX12_strike_27 rfl (lv_at hl 1 rfl) ?_
    refine lv_iconst (v := 0) C.1 C.2.1 dX12_strike_28 (by decide) ?_
    obtain ⟨r29, e29, h⟩ := bnd h
    refine afI X (runV C G X q_X12_ofWalker k_1915 kp_60 k_1913 (rcX12 G X kd_399) (c_X12_ofWalker l E e29) rfl hl.1 rfl (Nat.le_of_ble_eq_true rfl) ⟨Nat.le_of_ble_eq_true rfl, Nat.le_of_ble_eq_true rfl⟩ ⟨Nat.le_of_ble_eq_true rfl, Nat.le_of_ble_eq_true rfl⟩ dX12_strike_29) (fun H locs X => ?_)
    refine lv_istore_n (lv' := [(2, .int r29), (0, .ref (gB E + 399)), (1, .int x1)]) C.1 C.2.1 dX12_strike_32 rfl hl (by decide) rfl (fun ls hl => ?_)
    refine lv_aload_n C.1 C.2.1 dX12_strike_33 rfl (lv_at hl 1 rfl) ?_
    refine lv_aload_n C.1 C.2.1 dX12_strike_34 rfl (lv_at hl 1 rfl) ?_
    refine lv_iload_n C.1 C.2.1 dX12_strike_35 rfl (lv_at hl 2 rfl) ?_
    refine lv_iconst (v := 1) C.1 C.2.1 dX12_strike_36 (by decide) ?_
    obtain ⟨r37, e37, h⟩ := bnd h
    refine afI X (runV C G X q_X12_ofWalker k_1915 kp_60 k_1913 (rcX12 G X kd_399) (c_X12_ofWalker l E e37) rfl hl.1 rfl (Nat.le_of_ble_eq_true rfl) ⟨Nat.le_of_ble_eq_true rfl, Nat.le_of_ble_eq_true rfl⟩ ⟨Nat.le_of_ble_eq_true rfl, Nat.le_of_ble_eq_true rfl⟩ dX12_strike_37) (fun H locs X => ?_)
    refine lv_if_eq (tgt := 72) C.1 C.2.1 dX12_strike_40 (by decide) (fun c40 => ?_) (fun c40 => ?_)
    · replace h := ipos c40 h
      exact w_X12_strike_72 C G X (lv_sub hl [1, 2, 0] rfl) h
    · replace h := ineg c40 h
      refine lv_aload_n C.1 C.2.1 dX12_strike_43 rfl (lv_at hl 1 rfl) ?_
      refine lv_iload_n C.1 C.2.1 dX12_strike_44 rfl (lv_at hl 0 rfl) ?_
      refine lv_iconst (v := 1) C.1 C.2.1 dX12_strike_45 (by decide) ?_
      obtain ⟨r46, e46, h⟩ := bnd h
      refine afI X (runV C G X q_X12_of k_1855 kp_49 k_1853 (rcX12 G X kd_399) (c_X12_of l E e46) rfl hl.1 rfl (Nat.le_of_ble_eq_true rfl) ⟨Nat.le_of_ble_eq_true rfl, Nat.le_of_ble_eq_true rfl⟩ ⟨Nat.le_of_ble_eq_true rfl, Nat.le_of_ble_eq_true rfl⟩ dX12_strike_46) (fun H locs X => ?_)
      refine lv_iconst (v := 1) C.1 C.2.1 dX12_strike_49 (by decide) ?_
      refine lv_icmp_eq (tgt := 72) C.1 C.2.1 dX12_strike_50 (by decide) (fun c50 => ?_) (fun c50 => ?_)
      · replace h := ipos c50 h
        exact w_X12_strike_72 C G X (lv_sub hl [1, 2, 0] rfl) h
      · replace h := ineg c50 h
        refine lv_aload_n C.1 C.2.1 dX12_strike_53 rfl (lv_at hl 1 rfl) ?_
        refine lv_iload_n C.1 C.2.1 dX12_strike_54 rfl (lv_at hl 0 rfl) ?_
        refine lv_iconst (v := 2) C.1 C.2.1 dX12_strike_55 (by decide) ?_
        obtain ⟨r56, e56, h⟩ := bnd h
        refine afI X (runV C G X q_X12_of k_1855 kp_49 k_1853 (rcX12 G X kd_399) (c_X12_of l E e56) rfl hl.1 rfl (Nat.le_of_ble_eq_true rfl) ⟨Nat.le_of_ble_eq_true rfl, Nat.le_of_ble_eq_true rfl⟩ ⟨Nat.le_of_ble_eq_true rfl, Nat.le_of_ble_eq_true rfl⟩ dX12_strike_56) (fun H locs X => ?_)
        refine lv_iload_n C.1 C.2.1 dX12_strike_59 rfl (lv_at hl 2 rfl) ?_
        refine lv_icmp_eq (tgt := 72) C.1 C.2.1 dX12_strike_60 (by decide) (fun c60 => ?_) (fun c60 => ?_)
        · replace h := ipos c60 h
          exact w_X12_strike_72 C G X (lv_sub hl [1, 2, 0] rfl) h
        · replace h := ineg c60 h
          refine lv_aload_n C.1 C.2.1 dX12_strike_63 rfl (lv_at hl 1 rfl) ?_
          refine lv_iload_n C.1 C.2.1 dX12_strike_64 rfl (lv_at hl 0 rfl) ?_
          refine lv_iconst (v := 0) C.1 C.2.1 dX12_strike_65 (by decide) ?_
          obtain ⟨r66, e66, h⟩ := bnd h
          refine afI X (runV C G X q_X12_of k_1855 kp_49 k_1853 (rcX12 G X kd_399) (c_X12_of l E e66) rfl hl.1 rfl (Nat.le_of_ble_eq_true rfl) ⟨Nat.le_of_ble_eq_true rfl, Nat.le_of_ble_eq_true rfl⟩ ⟨Nat.le_of_ble_eq_true rfl, Nat.le_of_ble_eq_true rfl⟩ dX12_strike_66) (fun H locs X => ?_)
          refine lv_if_ne (tgt := 76) C.1 C.2.1 dX12_strike_69 (by decide) (fun c69 => ?_) (fun c69 => ?_)
          · replace h := ineg c69 h
            refine lv_iconst (v := 0) C.1 C.2.1 dX12_strike_76 (by decide) ?_
            exact w_X12_strike_77 C G X (lv_sub hl [1, 2, 0] rfl) h
          · replace h := ipos c69 h
            exact w_X12_strike_72 C G X (lv_sub hl [1, 2, 0] rfl) h
  · replace h := ineg c21 h
    refine lv_iconst (v := 0) C.1 C.2.1 dX12_strike_24 (by decide) ?_
    rw [← Option.some.inj h]
    exact rtI C X dX12_strike_25

set_option maxRecDepth 20000 in
theorem w_X12_strike {r : (Int32 × Mem)} {σ : Mem} {x1 : Int32} {ls : Array Slot} {H : Heap} {locs : List Loc} (C : Cx p s m args meth c cX12_strike (some .int) 3 RX12) (G : Gf E s) (X : Hx E σ s H locs) (hl : lv_has ls 3 [(0, .ref (gB E + 399)), (1, .int x1)]) (h : X12_strike x1 σ = some r) : W p l e (RM 4) s m args below meth c H locs 0 0 (QI E below args s r.1 r.2) (F0 m 0 ls []) := by
  rw [X12_strike] at h
  refine lv_aload_n C.1 C.2.1 dX12_strike_0 rfl (lv_at hl 0 rfl) ?_
  refine lv_aload_n C.1 C.2.1 dX12_strike_1 rfl (lv_at hl 0 rfl) ?_
  refine lv_iload_n C.1 C.2.1 dX12_strike_2 rfl (lv_at hl 1 rfl) ?_
  obtain ⟨r3, e3, h⟩ := bnd h
  refine afI X (runV C G X q_X12_isWalker k_1977 kp_72 k_1975 (rcX12 G X kd_399) (c_X12_isWalker l E e3) rfl hl.1 rfl (Nat.le_of_ble_eq_true rfl) ⟨Nat.le_of_ble_eq_true rfl, Nat.le_of_ble_eq_true rfl⟩ ⟨Nat.le_of_ble_eq_true rfl, Nat.le_of_ble_eq_true rfl⟩ dX12_strike_3) (fun H locs X => ?_)
  refine lv_if_ne (tgt := 13) C.1 C.2.1 dX12_strike_6 (by decide) (fun c6 => ?_) (fun c6 => ?_)
  · replace h := ineg c6 h
    refine lv_iconst (v := 0) C.1 C.2.1 dX12_strike_13 (by decide) ?_
    exact w_X12_strike_14 C G X (lv_sub hl [0, 1] rfl) h
  · replace h := ipos c6 h
    refine lv_iconst (v := 1) C.1 C.2.1 dX12_strike_9 (by decide) ?_
    refine lv_goto (tgt := 14) C.1 C.2.1 dX12_strike_10 (by decide) ?_
    exact w_X12_strike_14 C G X (lv_sub hl [0, 1] rfl) h

theorem c_X12_strike (l : Launch) (E : GE) {σ : Mem} {x1 : Int32} {r : (Int32 × Mem)} (h : X12_strike x1 σ = some r) : CtI l E yX12_strike cX12_strike 3 .int 4 [.ref (gB E + 399), .int x1] σ r.1 r.2 := by
  refine Met.ofW (cc := cX12_strike) (maxL := 3) (ret := (some .int)) (by decide) rfl ?_
  intro p e s m args below meth c s₁ B hml hv
  obtain ⟨rfl, G, X⟩ := start hv
  have C := cxof B hml
  have hl := lv_entry [.ref (gB E + 399), .int x1] (n := 3) (Nat.le_of_ble_eq_true rfl)
  rw [lg_entry_eq]
  generalize (lg_sl [.ref (gB E + 399), .int x1] ++ List.replicate (3 - (lg_sl [.ref (gB E + 399), .int x1]).length) Slot.unset).toArray = ls at hl ⊢
  exact w_X12_strike C G X hl h

set_option maxRecDepth 20000 in
theorem w_X12_snuff_51 {r : (Int32 × Mem)} {σ : Mem} {x1 : Int32} {y1 : Int32} {ls : Array Slot} {H : Heap} {locs : List Loc} (C : Cx p s m args meth c cX12_snuff (some .int) 3 RX12) (G : Gf E s) (X : Hx E σ s H locs) (hl : lv_has ls 3 [(0, .ref (gB E + 399)), (1, .int x1)]) (h : X12_snuff_51 x1 y1 σ = some r) : W p l e (RM 3) s m args below meth c H locs 0 0 (QI E below args s r.1 r.2) (F0 m 51 ls [.int y1, .ref (gB E + 399)]) := by
  rw [X12_snuff_51] at h
  obtain ⟨σ51, e51, h⟩ := bnd h
  refine pfX12 C G X (k := 399) kd_399 0 (x := y1) (ty := .int) rfl rfl (Nat.le_of_ble_eq_true rfl) (by decide) k_1651 rfl rfl (by decide +kernel) rfl rfl dX12_snuff_51 (fun H locs X => ?_)
  replace X := pu_x e51 X
  refine lv_aload_n C.1 C.2.1 dX12_snuff_54 rfl (lv_at hl 0 rfl) ?_
  refine gfX12 C G X (k := 399) kd_399 0 (v := .int (σ51 399 0)) rfl rfl (by decide) k_1651 rfl dX12_snuff_55 ?_
  refine lv_if_le (tgt := 63) C.1 C.2.1 dX12_snuff_58 (by decide) (fun c58 => ?_) (fun c58 => ?_)
  · replace h := ipos c58 h
    refine lv_aload_n C.1 C.2.1 dX12_snuff_63 rfl (lv_at hl 0 rfl) ?_
    refine lv_bipush (v := 11) C.1 C.2.1 dX12_snuff_64 (by decide) ?_
    refine lv_iconst (v := 4) C.1 C.2.1 dX12_snuff_66 (by decide) ?_
    refine lv_iload_n C.1 C.2.1 dX12_snuff_67 rfl (lv_at hl 1 rfl) ?_
    refine lv_imul C.1 C.2.1 dX12_snuff_68 ?_
    refine lv_iadd C.1 C.2.1 dX12_snuff_69 ?_
    refine lv_iconst (v := 1) C.1 C.2.1 dX12_snuff_70 (by decide) ?_
    refine lv_iadd C.1 C.2.1 dX12_snuff_71 ?_
    refine lv_iconst (v := 0) C.1 C.2.1 dX12_snuff_72 (by decide) ?_
    obtain ⟨r73, σ73, e73, h⟩ := bnd2 h
    refine afI (r0 := r73) (σ' := σ73) X (runV C G X q_X12_sets k_2038 kp_81 k_2036 (rcX12 G X kd_399) (c_X12_sets l E e73) rfl hl.1 rfl (Nat.le_of_ble_eq_true rfl) ⟨Nat.le_of_ble_eq_true rfl, Nat.le_of_ble_eq_true rfl⟩ ⟨Nat.le_of_ble_eq_true rfl, Nat.le_of_ble_eq_true rfl⟩ dX12_snuff_73) (fun H locs X => ?_)
    refine lv_istore_n (lv' := [(2, .int r73), (0, .ref (gB E + 399)), (1, .int x1)]) C.1 C.2.1 dX12_snuff_76 rfl hl (by decide) rfl (fun ls hl => ?_)
    refine lv_aload_n C.1 C.2.1 dX12_snuff_77 rfl (lv_at hl 1 rfl) ?_
    refine lv_iconst (v := 3) C.1 C.2.1 dX12_snuff_78 (by decide) ?_
    refine lv_iload_n C.1 C.2.1 dX12_snuff_79 rfl (lv_at hl 2 rfl) ?_
    refine lv_aload_n C.1 C.2.1 dX12_snuff_80 rfl (lv_at hl 1 rfl) ?_
    refine lv_iload_n C.1 C.2.1 dX12_snuff_81 rfl (lv_at hl 2 rfl) ?_
    refine lv_iconst (v := 2) C.1 C.2.1 dX12_snuff_82 (by decide) ?_
    obtain ⟨r83, e83, h⟩ := bnd h
    refine afI X (runV C G X q_X12_of k_1855 kp_49 k_1853 (rcX12 G X kd_399) (c_X12_of l E e83) rfl hl.1 rfl (Nat.le_of_ble_eq_true rfl) ⟨Nat.le_of_ble_eq_true rfl, Nat.le_of_ble_eq_true rfl⟩ ⟨Nat.le_of_ble_eq_true rfl, Nat.le_of_ble_eq_true rfl⟩ dX12_snuff_83) (fun H locs X => ?_)
    obtain ⟨σ86, e86, h⟩ := bnd h
    refine afV X (runV C G X q_X12_logs k_1962 kp_70 k_1960 (rcX12 G X kd_399) (c_X12_logs l E e86) rfl hl.1 rfl (Nat.le_of_ble_eq_true rfl) ⟨Nat.le_of_ble_eq_true rfl, Nat.le_of_ble_eq_true rfl⟩ ⟨Nat.le_of_ble_eq_true rfl, Nat.le_of_ble_eq_true rfl⟩ dX12_snuff_86) (fun H locs X => ?_)
    refine lv_aload_n C.1 C.2.1 dX12_snuff_89 rfl (lv_at hl 1 rfl) ?_
    refine lv_iload_n C.1 C.2.1 dX12_snuff_90 rfl (lv_at hl 2 rfl) ?_
    refine lv_iconst (v := 0) C.1 C.2.1 dX12_snuff_91 (by decide) ?_
    obtain ⟨r92, e92, h⟩ := bnd h
    refine afI X (runV C G X q_X12_of k_1855 kp_49 k_1853 (rcX12 G X kd_399) (c_X12_of l E e92) rfl hl.1 rfl (Nat.le_of_ble_eq_true rfl) ⟨Nat.le_of_ble_eq_true rfl, Nat.le_of_ble_eq_true rfl⟩ ⟨Nat.le_of_ble_eq_true rfl, Nat.le_of_ble_eq_true rfl⟩ dX12_snuff_92) (fun H locs X => ?_)
    rw [← Option.some.inj h]
    exact rtI C X dX12_snuff_95
  · replace h := ineg c58 h
    refine lv_iconst (v := 0) C.1 C.2.1 dX12_snuff_61 (by decide) ?_
    rw [← Option.some.inj h]
    exact rtI C X dX12_snuff_62

set_option maxRecDepth 20000 in
theorem w_X12_snuff_46 {r : (Int32 × Mem)} {σ : Mem} {x1 : Int32} {ls : Array Slot} {H : Heap} {locs : List Loc} (C : Cx p s m args meth c cX12_snuff (some .int) 3 RX12) (G : Gf E s) (X : Hx E σ s H locs) (hl : lv_has ls 3 [(0, .ref (gB E + 399)), (1, .int x1)]) (h : X12_snuff_46 x1 σ = some r) : W p l e (RM 3) s m args below meth c H locs 0 0 (QI E below args s r.1 r.2) (F0 m 46 ls [.ref (gB E + 399)]) := by
  rw [X12_snuff_46] at h
  refine lv_iconst (v := 2) C.1 C.2.1 dX12_snuff_46 (by decide) ?_
  refine lv_goto (tgt := 51) C.1 C.2.1 dX12_snuff_47 (by decide) ?_
  exact w_X12_snuff_51 C G X (lv_sub hl [0, 1] rfl) h

set_option maxRecDepth 20000 in
theorem w_X12_snuff_14 {r : (Int32 × Mem)} {σ : Mem} {x1 : Int32} {y1 : Int32} {ls : Array Slot} {H : Heap} {locs : List Loc} (C : Cx p s m args meth c cX12_snuff (some .int) 3 RX12) (G : Gf E s) (X : Hx E σ s H locs) (hl : lv_has ls 3 [(0, .ref (gB E + 399)), (1, .int x1)]) (h : X12_snuff_14 x1 y1 σ = some r) : W p l e (RM 3) s m args below meth c H locs 0 0 (QI E below args s r.1 r.2) (F0 m 14 ls [.int y1, .ref (gB E + 399)]) := by
  rw [X12_snuff_14] at h
  obtain ⟨σ14, e14, h⟩ := bnd h
  refine pfX12 C G X (k := 399) kd_399 0 (x := y1) (ty := .int) rfl rfl (Nat.le_of_ble_eq_true rfl) (by decide) k_1651 rfl rfl (by decide +kernel) rfl rfl dX12_snuff_14 (fun H locs X => ?_)
  replace X := pu_x e14 X
  refine lv_aload_n C.1 C.2.1 dX12_snuff_17 rfl (lv_at hl 0 rfl) ?_
  refine gfX12 C G X (k := 399) kd_399 0 (v := .int (σ14 399 0)) rfl rfl (by decide) k_1651 rfl dX12_snuff_18 ?_
  refine lv_if_le (tgt := 26) C.1 C.2.1 dX12_snuff_21 (by decide) (fun c21 => ?_) (fun c21 => ?_)
  · replace h := ipos c21 h
    refine lv_aload_n C.1 C.2.1 dX12_snuff_26 rfl (lv_at hl 0 rfl) ?_
    refine lv_aload_n C.1 C.2.1 dX12_snuff_27 rfl (lv_at hl 0 rfl) ?_
    refine lv_iload_n C.1 C.2.1 dX12_snuff_28 rfl (lv_at hl 1 rfl) ?_
    refine lv_iconst (v := 1) C.1 C.2.1 dX12_snuff_29 (by decide) ?_
    obtain ⟨r30, e30, h⟩ := bnd h
    refine afI X (runV C G X q_X12_of k_1855 kp_49 k_1853 (rcX12 G X kd_399) (c_X12_of l E e30) rfl hl.1 rfl (Nat.le_of_ble_eq_true rfl) ⟨Nat.le_of_ble_eq_true rfl, Nat.le_of_ble_eq_true rfl⟩ ⟨Nat.le_of_ble_eq_true rfl, Nat.le_of_ble_eq_true rfl⟩ dX12_snuff_30) (fun H locs X => ?_)
    refine lv_if_eq (tgt := 46) C.1 C.2.1 dX12_snuff_33 (by decide) (fun c33 => ?_) (fun c33 => ?_)
    · replace h := ipos c33 h
      exact w_X12_snuff_46 C G X (lv_sub hl [0, 1] rfl) h
    · replace h := ineg c33 h
      refine lv_aload_n C.1 C.2.1 dX12_snuff_36 rfl (lv_at hl 0 rfl) ?_
      refine lv_iload_n C.1 C.2.1 dX12_snuff_37 rfl (lv_at hl 1 rfl) ?_
      refine lv_iconst (v := 2) C.1 C.2.1 dX12_snuff_38 (by decide) ?_
      obtain ⟨r39, e39, h⟩ := bnd h
      refine afI X (runV C G X q_X12_of k_1855 kp_49 k_1853 (rcX12 G X kd_399) (c_X12_of l E e39) rfl hl.1 rfl (Nat.le_of_ble_eq_true rfl) ⟨Nat.le_of_ble_eq_true rfl, Nat.le_of_ble_eq_true rfl⟩ ⟨Nat.le_of_ble_eq_true rfl, Nat.le_of_ble_eq_true rfl⟩ dX12_snuff_39) (fun H locs X => ?_)
      refine lv_iconst (v := -1) C.1 C.2.1 dX12_snuff_42 (by decide) ?_
      refine lv_icmp_ne (tgt := 50) C.1 C.2.1 dX12_snuff_43 (by decide) (fun c43 => ?_) (fun c43 => ?_)
      · replace h := ineg c43 h
        refine lv_iconst (v := 0) C.1 C.2.1 dX12_snuff_50 (by decide) ?_
        exact w_X12_snuff_51 C G X (lv_sub hl [0, 1] rfl) h
      · replace h := ipos c43 h
        exact w_X12_snuff_46 C G X (lv_sub hl [0, 1] rfl) h
  · replace h := ineg c21 h
    refine lv_iconst (v := 0) C.1 C.2.1 dX12_snuff_24 (by decide) ?_
    rw [← Option.some.inj h]
    exact rtI C X dX12_snuff_25

set_option maxRecDepth 20000 in
theorem w_X12_snuff {r : (Int32 × Mem)} {σ : Mem} {x1 : Int32} {ls : Array Slot} {H : Heap} {locs : List Loc} (C : Cx p s m args meth c cX12_snuff (some .int) 3 RX12) (G : Gf E s) (X : Hx E σ s H locs) (hl : lv_has ls 3 [(0, .ref (gB E + 399)), (1, .int x1)]) (h : X12_snuff x1 σ = some r) : W p l e (RM 3) s m args below meth c H locs 0 0 (QI E below args s r.1 r.2) (F0 m 0 ls []) := by
  rw [X12_snuff] at h
  refine lv_aload_n C.1 C.2.1 dX12_snuff_0 rfl (lv_at hl 0 rfl) ?_
  refine lv_aload_n C.1 C.2.1 dX12_snuff_1 rfl (lv_at hl 0 rfl) ?_
  refine lv_iload_n C.1 C.2.1 dX12_snuff_2 rfl (lv_at hl 1 rfl) ?_
  obtain ⟨r3, e3, h⟩ := bnd h
  refine afI X (runV C G X q_X12_isPane k_1891 kp_54 k_1889 (rcX12 G X kd_399) (c_X12_isPane l E e3) rfl hl.1 rfl (Nat.le_of_ble_eq_true rfl) ⟨Nat.le_of_ble_eq_true rfl, Nat.le_of_ble_eq_true rfl⟩ ⟨Nat.le_of_ble_eq_true rfl, Nat.le_of_ble_eq_true rfl⟩ dX12_snuff_3) (fun H locs X => ?_)
  refine lv_if_ne (tgt := 13) C.1 C.2.1 dX12_snuff_6 (by decide) (fun c6 => ?_) (fun c6 => ?_)
  · replace h := ineg c6 h
    refine lv_iconst (v := 0) C.1 C.2.1 dX12_snuff_13 (by decide) ?_
    exact w_X12_snuff_14 C G X (lv_sub hl [0, 1] rfl) h
  · replace h := ipos c6 h
    refine lv_iconst (v := 1) C.1 C.2.1 dX12_snuff_9 (by decide) ?_
    refine lv_goto (tgt := 14) C.1 C.2.1 dX12_snuff_10 (by decide) ?_
    exact w_X12_snuff_14 C G X (lv_sub hl [0, 1] rfl) h

theorem c_X12_snuff (l : Launch) (E : GE) {σ : Mem} {x1 : Int32} {r : (Int32 × Mem)} (h : X12_snuff x1 σ = some r) : CtI l E yX12_snuff cX12_snuff 3 .int 3 [.ref (gB E + 399), .int x1] σ r.1 r.2 := by
  refine Met.ofW (cc := cX12_snuff) (maxL := 3) (ret := (some .int)) (by decide) rfl ?_
  intro p e s m args below meth c s₁ B hml hv
  obtain ⟨rfl, G, X⟩ := start hv
  have C := cxof B hml
  have hl := lv_entry [.ref (gB E + 399), .int x1] (n := 3) (Nat.le_of_ble_eq_true rfl)
  rw [lg_entry_eq]
  generalize (lg_sl [.ref (gB E + 399), .int x1] ++ List.replicate (3 - (lg_sl [.ref (gB E + 399), .int x1]).length) Slot.unset).toArray = ls at hl ⊢
  exact w_X12_snuff C G X hl h

set_option maxRecDepth 20000 in
theorem w_X12_oil_28 {r : (Int32 × Mem)} {σ : Mem} {x1 : Int32} {x2 : Int32} {y1 : Int32} {ls : Array Slot} {H : Heap} {locs : List Loc} (C : Cx p s m args meth c cX12_oil (some .int) 4 RX12) (G : Gf E s) (X : Hx E σ s H locs) (hl : lv_has ls 4 [(0, .ref (gB E + 399)), (1, .int x1), (2, .int x2)]) (h : X12_oil_28 x1 x2 y1 σ = some r) : W p l e (RM 3) s m args below meth c H locs 0 0 (QI E below args s r.1 r.2) (F0 m 28 ls [.int y1, .ref (gB E + 399)]) := by
  rw [X12_oil_28] at h
  obtain ⟨σ28, e28, h⟩ := bnd h
  refine pfX12 C G X (k := 399) kd_399 0 (x := y1) (ty := .int) rfl rfl (Nat.le_of_ble_eq_true rfl) (by decide) k_1651 rfl rfl (by decide +kernel) rfl rfl dX12_oil_28 (fun H locs X => ?_)
  replace X := pu_x e28 X
  refine lv_aload_n C.1 C.2.1 dX12_oil_31 rfl (lv_at hl 0 rfl) ?_
  refine gfX12 C G X (k := 399) kd_399 0 (v := .int (σ28 399 0)) rfl rfl (by decide) k_1651 rfl dX12_oil_32 ?_
  refine lv_if_le (tgt := 40) C.1 C.2.1 dX12_oil_35 (by decide) (fun c35 => ?_) (fun c35 => ?_)
  · replace h := ipos c35 h
    refine lv_aload_n C.1 C.2.1 dX12_oil_40 rfl (lv_at hl 0 rfl) ?_
    refine lv_bipush (v := 11) C.1 C.2.1 dX12_oil_41 (by decide) ?_
    refine lv_iconst (v := 4) C.1 C.2.1 dX12_oil_43 (by decide) ?_
    refine lv_iload_n C.1 C.2.1 dX12_oil_44 rfl (lv_at hl 1 rfl) ?_
    refine lv_imul C.1 C.2.1 dX12_oil_45 ?_
    refine lv_iadd C.1 C.2.1 dX12_oil_46 ?_
    refine lv_iconst (v := 0) C.1 C.2.1 dX12_oil_47 (by decide) ?_
    refine lv_iadd C.1 C.2.1 dX12_oil_48 ?_
    refine lv_bipush (v := 99) C.1 C.2.1 dX12_oil_49 (by decide) ?_
    refine lv_aload_n C.1 C.2.1 dX12_oil_51 rfl (lv_at hl 0 rfl) ?_
    refine lv_iload_n C.1 C.2.1 dX12_oil_52 rfl (lv_at hl 1 rfl) ?_
    refine lv_iconst (v := 0) C.1 C.2.1 dX12_oil_53 (by decide) ?_
    obtain ⟨r54, e54, h⟩ := bnd h
    refine afI X (runV C G X q_X12_of k_1855 kp_49 k_1853 (rcX12 G X kd_399) (c_X12_of l E e54) rfl hl.1 rfl (Nat.le_of_ble_eq_true rfl) ⟨Nat.le_of_ble_eq_true rfl, Nat.le_of_ble_eq_true rfl⟩ ⟨Nat.le_of_ble_eq_true rfl, Nat.le_of_ble_eq_true rfl⟩ dX12_oil_54) (fun H locs X => ?_)
    refine lv_iload_n C.1 C.2.1 dX12_oil_57 rfl (lv_at hl 2 rfl) ?_
    refine lv_iadd C.1 C.2.1 dX12_oil_58 ?_
    obtain ⟨r59, e59, h⟩ := bnd h
    refine afI X (runS C G X q_X12_lesser k_1958 k_1957 (c_X12_lesser l E e59) rfl hl.1 rfl (Nat.le_of_ble_eq_true rfl) ⟨Nat.le_of_ble_eq_true rfl, Nat.le_of_ble_eq_true rfl⟩ ⟨Nat.le_of_ble_eq_true rfl, Nat.le_of_ble_eq_true rfl⟩ dX12_oil_59) (fun H locs X => ?_)
    obtain ⟨r62, σ62, e62, h⟩ := bnd2 h
    refine afI (r0 := r62) (σ' := σ62) X (runV C G X q_X12_sets k_2038 kp_81 k_2036 (rcX12 G X kd_399) (c_X12_sets l E e62) rfl hl.1 rfl (Nat.le_of_ble_eq_true rfl) ⟨Nat.le_of_ble_eq_true rfl, Nat.le_of_ble_eq_true rfl⟩ ⟨Nat.le_of_ble_eq_true rfl, Nat.le_of_ble_eq_true rfl⟩ dX12_oil_62) (fun H locs X => ?_)
    refine lv_istore_n (lv' := [(3, .int r62), (0, .ref (gB E + 399)), (1, .int x1), (2, .int x2)]) C.1 C.2.1 dX12_oil_65 rfl hl (by decide) rfl (fun ls hl => ?_)
    refine lv_aload_n C.1 C.2.1 dX12_oil_66 rfl (lv_at hl 1 rfl) ?_
    refine lv_iload_n C.1 C.2.1 dX12_oil_67 rfl (lv_at hl 2 rfl) ?_
    refine lv_iconst (v := 0) C.1 C.2.1 dX12_oil_68 (by decide) ?_
    obtain ⟨r69, e69, h⟩ := bnd h
    refine afI X (runV C G X q_X12_of k_1855 kp_49 k_1853 (rcX12 G X kd_399) (c_X12_of l E e69) rfl hl.1 rfl (Nat.le_of_ble_eq_true rfl) ⟨Nat.le_of_ble_eq_true rfl, Nat.le_of_ble_eq_true rfl⟩ ⟨Nat.le_of_ble_eq_true rfl, Nat.le_of_ble_eq_true rfl⟩ dX12_oil_69) (fun H locs X => ?_)
    rw [← Option.some.inj h]
    exact rtI C X dX12_oil_72
  · replace h := ineg c35 h
    refine lv_iconst (v := 0) C.1 C.2.1 dX12_oil_38 (by decide) ?_
    rw [← Option.some.inj h]
    exact rtI C X dX12_oil_39

set_option maxRecDepth 20000 in
theorem w_X12_oil {r : (Int32 × Mem)} {σ : Mem} {x1 : Int32} {x2 : Int32} {ls : Array Slot} {H : Heap} {locs : List Loc} (C : Cx p s m args meth c cX12_oil (some .int) 4 RX12) (G : Gf E s) (X : Hx E σ s H locs) (hl : lv_has ls 4 [(0, .ref (gB E + 399)), (1, .int x1), (2, .int x2)]) (h : X12_oil x1 x2 σ = some r) : W p l e (RM 3) s m args below meth c H locs 0 0 (QI E below args s r.1 r.2) (F0 m 0 ls []) := by
  rw [X12_oil] at h
  refine lv_aload_n C.1 C.2.1 dX12_oil_0 rfl (lv_at hl 0 rfl) ?_
  refine lv_aload_n C.1 C.2.1 dX12_oil_1 rfl (lv_at hl 0 rfl) ?_
  refine lv_iload_n C.1 C.2.1 dX12_oil_2 rfl (lv_at hl 1 rfl) ?_
  obtain ⟨r3, e3, h⟩ := bnd h
  refine afI X (runV C G X q_X12_isPane k_1891 kp_54 k_1889 (rcX12 G X kd_399) (c_X12_isPane l E e3) rfl hl.1 rfl (Nat.le_of_ble_eq_true rfl) ⟨Nat.le_of_ble_eq_true rfl, Nat.le_of_ble_eq_true rfl⟩ ⟨Nat.le_of_ble_eq_true rfl, Nat.le_of_ble_eq_true rfl⟩ dX12_oil_3) (fun H locs X => ?_)
  refine lv_if_ne (tgt := 13) C.1 C.2.1 dX12_oil_6 (by decide) (fun c6 => ?_) (fun c6 => ?_)
  · replace h := ineg c6 h
    refine lv_iload_n C.1 C.2.1 dX12_oil_13 rfl (lv_at hl 2 rfl) ?_
    refine lv_iconst (v := 1) C.1 C.2.1 dX12_oil_14 (by decide) ?_
    refine lv_bipush (v := 99) C.1 C.2.1 dX12_oil_15 (by decide) ?_
    obtain ⟨r17, e17, h⟩ := bnd h
    refine afI X (runS C G X q_X12_isIn k_1734 k_1733 (c_X12_isIn l E e17) rfl hl.1 rfl (Nat.le_of_ble_eq_true rfl) ⟨Nat.le_of_ble_eq_true rfl, Nat.le_of_ble_eq_true rfl⟩ ⟨Nat.le_of_ble_eq_true rfl, Nat.le_of_ble_eq_true rfl⟩ dX12_oil_17) (fun H locs X => ?_)
    refine lv_if_ne (tgt := 27) C.1 C.2.1 dX12_oil_20 (by decide) (fun c20 => ?_) (fun c20 => ?_)
    · replace h := ineg c20 h
      refine lv_iconst (v := 0) C.1 C.2.1 dX12_oil_27 (by decide) ?_
      exact w_X12_oil_28 C G X (lv_sub hl [0, 1, 2] rfl) h
    · replace h := ipos c20 h
      refine lv_iconst (v := 2) C.1 C.2.1 dX12_oil_23 (by decide) ?_
      refine lv_goto (tgt := 28) C.1 C.2.1 dX12_oil_24 (by decide) ?_
      exact w_X12_oil_28 C G X (lv_sub hl [0, 1, 2] rfl) h
  · replace h := ipos c6 h
    refine lv_iconst (v := 1) C.1 C.2.1 dX12_oil_9 (by decide) ?_
    refine lv_goto (tgt := 28) C.1 C.2.1 dX12_oil_10 (by decide) ?_
    exact w_X12_oil_28 C G X (lv_sub hl [0, 1, 2] rfl) h

theorem c_X12_oil (l : Launch) (E : GE) {σ : Mem} {x1 : Int32} {x2 : Int32} {r : (Int32 × Mem)} (h : X12_oil x1 x2 σ = some r) : CtI l E yX12_oil cX12_oil 4 .int 3 [.ref (gB E + 399), .int x1, .int x2] σ r.1 r.2 := by
  refine Met.ofW (cc := cX12_oil) (maxL := 4) (ret := (some .int)) (by decide) rfl ?_
  intro p e s m args below meth c s₁ B hml hv
  obtain ⟨rfl, G, X⟩ := start hv
  have C := cxof B hml
  have hl := lv_entry [.ref (gB E + 399), .int x1, .int x2] (n := 4) (Nat.le_of_ble_eq_true rfl)
  rw [lg_entry_eq]
  generalize (lg_sl [.ref (gB E + 399), .int x1, .int x2] ++ List.replicate (4 - (lg_sl [.ref (gB E + 399), .int x1, .int x2]).length) Slot.unset).toArray = ls at hl ⊢
  exact w_X12_oil C G X hl h

set_option maxRecDepth 20000 in
theorem w_X12_taper_28 {r : (Int32 × Mem)} {σ : Mem} {x1 : Int32} {x2 : Int32} {y1 : Int32} {ls : Array Slot} {H : Heap} {locs : List Loc} (C : Cx p s m args meth c cX12_taper (some .int) 4 RX12) (G : Gf E s) (X : Hx E σ s H locs) (hl : lv_has ls 4 [(0, .ref (gB E + 399)), (1, .int x1), (2, .int x2)]) (h : X12_taper_28 x1 x2 y1 σ = some r) : W p l e (RM 3) s m args below meth c H locs 0 0 (QI E below args s r.1 r.2) (F0 m 28 ls [.int y1, .ref (gB E + 399)]) := by
  rw [X12_taper_28] at h
  obtain ⟨σ28, e28, h⟩ := bnd h
  refine pfX12 C G X (k := 399) kd_399 0 (x := y1) (ty := .int) rfl rfl (Nat.le_of_ble_eq_true rfl) (by decide) k_1651 rfl rfl (by decide +kernel) rfl rfl dX12_taper_28 (fun H locs X => ?_)
  replace X := pu_x e28 X
  refine lv_aload_n C.1 C.2.1 dX12_taper_31 rfl (lv_at hl 0 rfl) ?_
  refine gfX12 C G X (k := 399) kd_399 0 (v := .int (σ28 399 0)) rfl rfl (by decide) k_1651 rfl dX12_taper_32 ?_
  refine lv_if_le (tgt := 40) C.1 C.2.1 dX12_taper_35 (by decide) (fun c35 => ?_) (fun c35 => ?_)
  · replace h := ipos c35 h
    refine lv_aload_n C.1 C.2.1 dX12_taper_40 rfl (lv_at hl 0 rfl) ?_
    refine lv_sipush (v := 128) C.1 C.2.1 dX12_taper_41 (by decide) ?_
    refine lv_iconst (v := 4) C.1 C.2.1 dX12_taper_44 (by decide) ?_
    refine lv_iload_n C.1 C.2.1 dX12_taper_45 rfl (lv_at hl 1 rfl) ?_
    refine lv_imul C.1 C.2.1 dX12_taper_46 ?_
    refine lv_iadd C.1 C.2.1 dX12_taper_47 ?_
    refine lv_iconst (v := 1) C.1 C.2.1 dX12_taper_48 (by decide) ?_
    refine lv_iadd C.1 C.2.1 dX12_taper_49 ?_
    refine lv_bipush (v := 99) C.1 C.2.1 dX12_taper_50 (by decide) ?_
    refine lv_aload_n C.1 C.2.1 dX12_taper_52 rfl (lv_at hl 0 rfl) ?_
    refine lv_iload_n C.1 C.2.1 dX12_taper_53 rfl (lv_at hl 1 rfl) ?_
    refine lv_iconst (v := 1) C.1 C.2.1 dX12_taper_54 (by decide) ?_
    obtain ⟨r55, e55, h⟩ := bnd h
    refine afI X (runV C G X q_X12_ofWalker k_1915 kp_60 k_1913 (rcX12 G X kd_399) (c_X12_ofWalker l E e55) rfl hl.1 rfl (Nat.le_of_ble_eq_true rfl) ⟨Nat.le_of_ble_eq_true rfl, Nat.le_of_ble_eq_true rfl⟩ ⟨Nat.le_of_ble_eq_true rfl, Nat.le_of_ble_eq_true rfl⟩ dX12_taper_55) (fun H locs X => ?_)
    refine lv_iload_n C.1 C.2.1 dX12_taper_58 rfl (lv_at hl 2 rfl) ?_
    refine lv_iadd C.1 C.2.1 dX12_taper_59 ?_
    obtain ⟨r60, e60, h⟩ := bnd h
    refine afI X (runS C G X q_X12_lesser k_1958 k_1957 (c_X12_lesser l E e60) rfl hl.1 rfl (Nat.le_of_ble_eq_true rfl) ⟨Nat.le_of_ble_eq_true rfl, Nat.le_of_ble_eq_true rfl⟩ ⟨Nat.le_of_ble_eq_true rfl, Nat.le_of_ble_eq_true rfl⟩ dX12_taper_60) (fun H locs X => ?_)
    obtain ⟨r63, σ63, e63, h⟩ := bnd2 h
    refine afI (r0 := r63) (σ' := σ63) X (runV C G X q_X12_sets k_2038 kp_81 k_2036 (rcX12 G X kd_399) (c_X12_sets l E e63) rfl hl.1 rfl (Nat.le_of_ble_eq_true rfl) ⟨Nat.le_of_ble_eq_true rfl, Nat.le_of_ble_eq_true rfl⟩ ⟨Nat.le_of_ble_eq_true rfl, Nat.le_of_ble_eq_true rfl⟩ dX12_taper_63) (fun H locs X => ?_)
    refine lv_istore_n (lv' := [(3, .int r63), (0, .ref (gB E + 399)), (1, .int x1), (2, .int x2)]) C.1 C.2.1 dX12_taper_66 rfl hl (by decide) rfl (fun ls hl => ?_)
    refine lv_aload_n C.1 C.2.1 dX12_taper_67 rfl (lv_at hl 1 rfl) ?_
    refine lv_iload_n C.1 C.2.1 dX12_taper_68 rfl (lv_at hl 2 rfl) ?_
    refine lv_iconst (v := 1) C.1 C.2.1 dX12_taper_69 (by decide) ?_
    obtain ⟨r70, e70, h⟩ := bnd h
    refine afI X (runV C G X q_X12_ofWalker k_1915 kp_60 k_1913 (rcX12 G X kd_399) (c_X12_ofWalker l E e70) rfl hl.1 rfl (Nat.le_of_ble_eq_true rfl) ⟨Nat.le_of_ble_eq_true rfl, Nat.le_of_ble_eq_true rfl⟩ ⟨Nat.le_of_ble_eq_true rfl, Nat.le_of_ble_eq_true rfl⟩ dX12_taper_70) (fun H locs X => ?_)
    rw [← Option.some.inj h]
    exact rtI C X dX12_taper_73
  · replace h := ineg c35 h
    refine lv_iconst (v := 0) C.1 C.2.1 dX12_taper_38 (by decide) ?_
    rw [← Option.some.inj h]
    exact rtI C X dX12_taper_39

set_option maxRecDepth 20000 in
theorem w_X12_taper {r : (Int32 × Mem)} {σ : Mem} {x1 : Int32} {x2 : Int32} {ls : Array Slot} {H : Heap} {locs : List Loc} (C : Cx p s m args meth c cX12_taper (some .int) 4 RX12) (G : Gf E s) (X : Hx E σ s H locs) (hl : lv_has ls 4 [(0, .ref (gB E + 399)), (1, .int x1), (2, .int x2)]) (h : X12_taper x1 x2 σ = some r) : W p l e (RM 3) s m args below meth c H locs 0 0 (QI E below args s r.1 r.2) (F0 m 0 ls []) := by
  rw [X12_taper] at h
  refine lv_aload_n C.1 C.2.1 dX12_taper_0 rfl (lv_at hl 0 rfl) ?_
  refine lv_aload_n C.1 C.2.1 dX12_taper_1 rfl (lv_at hl 0 rfl) ?_
  refine lv_iload_n C.1 C.2.1 dX12_taper_2 rfl (lv_at hl 1 rfl) ?_
  obtain ⟨r3, e3, h⟩ := bnd h
  refine afI X (runV C G X q_X12_isWalker k_1977 kp_72 k_1975 (rcX12 G X kd_399) (c_X12_isWalker l E e3) rfl hl.1 rfl (Nat.le_of_ble_eq_true rfl) ⟨Nat.le_of_ble_eq_true rfl, Nat.le_of_ble_eq_true rfl⟩ ⟨Nat.le_of_ble_eq_true rfl, Nat.le_of_ble_eq_true rfl⟩ dX12_taper_3) (fun H locs X => ?_)
  refine lv_if_ne (tgt := 13) C.1 C.2.1 dX12_taper_6 (by decide) (fun c6 => ?_) (fun c6 => ?_)
  · replace h := ineg c6 h
    refine lv_iload_n C.1 C.2.1 dX12_taper_13 rfl (lv_at hl 2 rfl) ?_
    refine lv_iconst (v := 1) C.1 C.2.1 dX12_taper_14 (by decide) ?_
    refine lv_bipush (v := 99) C.1 C.2.1 dX12_taper_15 (by decide) ?_
    obtain ⟨r17, e17, h⟩ := bnd h
    refine afI X (runS C G X q_X12_isIn k_1734 k_1733 (c_X12_isIn l E e17) rfl hl.1 rfl (Nat.le_of_ble_eq_true rfl) ⟨Nat.le_of_ble_eq_true rfl, Nat.le_of_ble_eq_true rfl⟩ ⟨Nat.le_of_ble_eq_true rfl, Nat.le_of_ble_eq_true rfl⟩ dX12_taper_17) (fun H locs X => ?_)
    refine lv_if_ne (tgt := 27) C.1 C.2.1 dX12_taper_20 (by decide) (fun c20 => ?_) (fun c20 => ?_)
    · replace h := ineg c20 h
      refine lv_iconst (v := 0) C.1 C.2.1 dX12_taper_27 (by decide) ?_
      exact w_X12_taper_28 C G X (lv_sub hl [0, 1, 2] rfl) h
    · replace h := ipos c20 h
      refine lv_iconst (v := 2) C.1 C.2.1 dX12_taper_23 (by decide) ?_
      refine lv_goto (tgt := 28) C.1 C.2.1 dX12_taper_24 (by decide) ?_
      exact w_X12_taper_28 C G X (lv_sub hl [0, 1, 2] rfl) h
  · replace h := ipos c6 h
    refine lv_iconst (v := 1) C.1 C.2.1 dX12_taper_9 (by decide) ?_
    refine lv_goto (tgt := 28) C.1 C.2.1 dX12_taper_10 (by decide) ?_
    exact w_X12_taper_28 C G X (lv_sub hl [0, 1, 2] rfl) h

theorem c_X12_taper (l : Launch) (E : GE) {σ : Mem} {x1 : Int32} {x2 : Int32} {r : (Int32 × Mem)} (h : X12_taper x1 x2 σ = some r) : CtI l E yX12_taper cX12_taper 4 .int 3 [.ref (gB E + 399), .int x1, .int x2] σ r.1 r.2 := by
  refine Met.ofW (cc := cX12_taper) (maxL := 4) (ret := (some .int)) (by decide) rfl ?_
  intro p e s m args below meth c s₁ B hml hv
  obtain ⟨rfl, G, X⟩ := start hv
  have C := cxof B hml
  have hl := lv_entry [.ref (gB E + 399), .int x1, .int x2] (n := 4) (Nat.le_of_ble_eq_true rfl)
  rw [lg_entry_eq]
  generalize (lg_sl [.ref (gB E + 399), .int x1, .int x2] ++ List.replicate (4 - (lg_sl [.ref (gB E + 399), .int x1, .int x2]).length) Slot.unset).toArray = ls at hl ⊢
  exact w_X12_taper C G X hl h

set_option maxRecDepth 20000 in
theorem w_X12_like_41 {r : (Int32 × Mem)} {σ : Mem} {x1 : Int32} {x2 : Int32} {x3 : Int32} {y1 : Int32} {ls : Array Slot} {H : Heap} {locs : List Loc} (C : Cx p s m args meth c cX12_like (some .int) 4 RX12) (G : Gf E s) (X : Hx E σ s H locs) (hl : lv_has ls 4 [(0, .ref (gB E + 399)), (1, .int x1), (2, .int x2), (3, .int x3)]) (h : X12_like_41 x1 x2 x3 y1 σ = some r) : W p l e (RM 3) s m args below meth c H locs 0 0 (QI E below args s r.1 r.2) (F0 m 41 ls [.int y1, .ref (gB E + 399)]) := by
  rw [X12_like_41] at h
  obtain ⟨σ41, e41, h⟩ := bnd h
  refine pfX12 C G X (k := 399) kd_399 0 (x := y1) (ty := .int) rfl rfl (Nat.le_of_ble_eq_true rfl) (by decide) k_1651 rfl rfl (by decide +kernel) rfl rfl dX12_like_41 (fun H locs X => ?_)
  replace X := pu_x e41 X
  refine lv_aload_n C.1 C.2.1 dX12_like_44 rfl (lv_at hl 0 rfl) ?_
  refine gfX12 C G X (k := 399) kd_399 0 (v := .int (σ41 399 0)) rfl rfl (by decide) k_1651 rfl dX12_like_45 ?_
  refine lv_if_le (tgt := 55) C.1 C.2.1 dX12_like_48 (by decide) (fun c48 => ?_) (fun c48 => ?_)
  · replace h := ipos c48 h
    refine lv_aload_n C.1 C.2.1 dX12_like_55 rfl (lv_at hl 0 rfl) ?_
    refine lv_sipush (v := 152) C.1 C.2.1 dX12_like_56 (by decide) ?_
    refine lv_bipush (v := 6) C.1 C.2.1 dX12_like_59 (by decide) ?_
    refine lv_iload_n C.1 C.2.1 dX12_like_61 rfl (lv_at hl 1 rfl) ?_
    refine lv_imul C.1 C.2.1 dX12_like_62 ?_
    refine lv_iadd C.1 C.2.1 dX12_like_63 ?_
    refine lv_iload_n C.1 C.2.1 dX12_like_64 rfl (lv_at hl 2 rfl) ?_
    refine lv_iadd C.1 C.2.1 dX12_like_65 ?_
    refine lv_iload_n C.1 C.2.1 dX12_like_66 rfl (lv_at hl 3 rfl) ?_
    obtain ⟨r67, σ67, e67, h⟩ := bnd2 h
    refine afI (r0 := r67) (σ' := σ67) X (runV C G X q_X12_sets k_2038 kp_81 k_2036 (rcX12 G X kd_399) (c_X12_sets l E e67) rfl hl.1 rfl (Nat.le_of_ble_eq_true rfl) ⟨Nat.le_of_ble_eq_true rfl, Nat.le_of_ble_eq_true rfl⟩ ⟨Nat.le_of_ble_eq_true rfl, Nat.le_of_ble_eq_true rfl⟩ dX12_like_67) (fun H locs X => ?_)
    rw [← Option.some.inj h]
    exact rtI C X dX12_like_70
  · replace h := ineg c48 h
    refine lv_iconst (v := 0) C.1 C.2.1 dX12_like_51 (by decide) ?_
    refine lv_goto (tgt := 70) C.1 C.2.1 dX12_like_52 (by decide) ?_
    rw [← Option.some.inj h]
    exact rtI C X dX12_like_70

set_option maxRecDepth 20000 in
theorem w_X12_like_17 {r : (Int32 × Mem)} {σ : Mem} {x1 : Int32} {x2 : Int32} {x3 : Int32} {ls : Array Slot} {H : Heap} {locs : List Loc} (C : Cx p s m args meth c cX12_like (some .int) 4 RX12) (G : Gf E s) (X : Hx E σ s H locs) (hl : lv_has ls 4 [(0, .ref (gB E + 399)), (1, .int x1), (2, .int x2), (3, .int x3)]) (h : X12_like_17 x1 x2 x3 σ = some r) : W p l e (RM 3) s m args below meth c H locs 0 0 (QI E below args s r.1 r.2) (F0 m 17 ls [.ref (gB E + 399)]) := by
  rw [X12_like_17] at h
  refine lv_iconst (v := 1) C.1 C.2.1 dX12_like_17 (by decide) ?_
  refine lv_goto (tgt := 41) C.1 C.2.1 dX12_like_18 (by decide) ?_
  exact w_X12_like_41 C G X (lv_sub hl [0, 1, 2, 3] rfl) h

set_option maxRecDepth 20000 in
theorem w_X12_like_36 {r : (Int32 × Mem)} {σ : Mem} {x1 : Int32} {x2 : Int32} {x3 : Int32} {ls : Array Slot} {H : Heap} {locs : List Loc} (C : Cx p s m args meth c cX12_like (some .int) 4 RX12) (G : Gf E s) (X : Hx E σ s H locs) (hl : lv_has ls 4 [(0, .ref (gB E + 399)), (1, .int x1), (2, .int x2), (3, .int x3)]) (h : X12_like_36 x1 x2 x3 σ = some r) : W p l e (RM 3) s m args below meth c H locs 0 0 (QI E below args s r.1 r.2) (F0 m 36 ls [.ref (gB E + 399)]) := by
  rw [X12_like_36] at h
  refine lv_iconst (v := 2) C.1 C.2.1 dX12_like_36 (by decide) ?_
  refine lv_goto (tgt := 41) C.1 C.2.1 dX12_like_37 (by decide) ?_
  exact w_X12_like_41 C G X (lv_sub hl [0, 1, 2, 3] rfl) h

set_option maxRecDepth 20000 in
theorem w_X12_like {r : (Int32 × Mem)} {σ : Mem} {x1 : Int32} {x2 : Int32} {x3 : Int32} {ls : Array Slot} {H : Heap} {locs : List Loc} (C : Cx p s m args meth c cX12_like (some .int) 4 RX12) (G : Gf E s) (X : Hx E σ s H locs) (hl : lv_has ls 4 [(0, .ref (gB E + 399)), (1, .int x1), (2, .int x2), (3, .int x3)]) (h : X12_like x1 x2 x3 σ = some r) : W p l e (RM 3) s m args below meth c H locs 0 0 (QI E below args s r.1 r.2) (F0 m 0 ls []) := by
  rw [X12_like] at h
  refine lv_aload_n C.1 C.2.1 dX12_like_0 rfl (lv_at hl 0 rfl) ?_
  refine lv_aload_n C.1 C.2.1 dX12_like_1 rfl (lv_at hl 0 rfl) ?_
  refine lv_iload_n C.1 C.2.1 dX12_like_2 rfl (lv_at hl 1 rfl) ?_
  obtain ⟨r3, e3, h⟩ := bnd h
  refine afI X (runV C G X q_X12_isWalker k_1977 kp_72 k_1975 (rcX12 G X kd_399) (c_X12_isWalker l E e3) rfl hl.1 rfl (Nat.le_of_ble_eq_true rfl) ⟨Nat.le_of_ble_eq_true rfl, Nat.le_of_ble_eq_true rfl⟩ ⟨Nat.le_of_ble_eq_true rfl, Nat.le_of_ble_eq_true rfl⟩ dX12_like_3) (fun H locs X => ?_)
  refine lv_if_eq (tgt := 17) C.1 C.2.1 dX12_like_6 (by decide) (fun c6 => ?_) (fun c6 => ?_)
  · replace h := ipos c6 h
    exact w_X12_like_17 C G X (lv_sub hl [0, 1, 2, 3] rfl) h
  · replace h := ineg c6 h
    refine lv_aload_n C.1 C.2.1 dX12_like_9 rfl (lv_at hl 0 rfl) ?_
    refine lv_iload_n C.1 C.2.1 dX12_like_10 rfl (lv_at hl 2 rfl) ?_
    obtain ⟨r11, e11, h⟩ := bnd h
    refine afI X (runV C G X q_X12_isWalker k_1977 kp_72 k_1975 (rcX12 G X kd_399) (c_X12_isWalker l E e11) rfl hl.1 rfl (Nat.le_of_ble_eq_true rfl) ⟨Nat.le_of_ble_eq_true rfl, Nat.le_of_ble_eq_true rfl⟩ ⟨Nat.le_of_ble_eq_true rfl, Nat.le_of_ble_eq_true rfl⟩ dX12_like_11) (fun H locs X => ?_)
    refine lv_if_ne (tgt := 21) C.1 C.2.1 dX12_like_14 (by decide) (fun c14 => ?_) (fun c14 => ?_)
    · replace h := ineg c14 h
      refine lv_iload_n C.1 C.2.1 dX12_like_21 rfl (lv_at hl 1 rfl) ?_
      refine lv_iload_n C.1 C.2.1 dX12_like_22 rfl (lv_at hl 2 rfl) ?_
      refine lv_icmp_eq (tgt := 36) C.1 C.2.1 dX12_like_23 (by decide) (fun c23 => ?_) (fun c23 => ?_)
      · replace h := ipos c23 h
        exact w_X12_like_36 C G X (lv_sub hl [0, 1, 2, 3] rfl) h
      · replace h := ineg c23 h
        refine lv_iload_n C.1 C.2.1 dX12_like_26 rfl (lv_at hl 3 rfl) ?_
        refine lv_iconst (v := 0) C.1 C.2.1 dX12_like_27 (by decide) ?_
        refine lv_bipush (v := 9) C.1 C.2.1 dX12_like_28 (by decide) ?_
        obtain ⟨r30, e30, h⟩ := bnd h
        refine afI X (runS C G X q_X12_isIn k_1734 k_1733 (c_X12_isIn l E e30) rfl hl.1 rfl (Nat.le_of_ble_eq_true rfl) ⟨Nat.le_of_ble_eq_true rfl, Nat.le_of_ble_eq_true rfl⟩ ⟨Nat.le_of_ble_eq_true rfl, Nat.le_of_ble_eq_true rfl⟩ dX12_like_30) (fun H locs X => ?_)
        refine lv_if_ne (tgt := 40) C.1 C.2.1 dX12_like_33 (by decide) (fun c33 => ?_) (fun c33 => ?_)
        · replace h := ineg c33 h
          refine lv_iconst (v := 0) C.1 C.2.1 dX12_like_40 (by decide) ?_
          exact w_X12_like_41 C G X (lv_sub hl [0, 1, 2, 3] rfl) h
        · replace h := ipos c33 h
          exact w_X12_like_36 C G X (lv_sub hl [0, 1, 2, 3] rfl) h
    · replace h := ipos c14 h
      exact w_X12_like_17 C G X (lv_sub hl [0, 1, 2, 3] rfl) h

theorem c_X12_like (l : Launch) (E : GE) {σ : Mem} {x1 : Int32} {x2 : Int32} {x3 : Int32} {r : (Int32 × Mem)} (h : X12_like x1 x2 x3 σ = some r) : CtI l E yX12_like cX12_like 4 .int 3 [.ref (gB E + 399), .int x1, .int x2, .int x3] σ r.1 r.2 := by
  refine Met.ofW (cc := cX12_like) (maxL := 4) (ret := (some .int)) (by decide) rfl ?_
  intro p e s m args below meth c s₁ B hml hv
  obtain ⟨rfl, G, X⟩ := start hv
  have C := cxof B hml
  have hl := lv_entry [.ref (gB E + 399), .int x1, .int x2, .int x3] (n := 4) (Nat.le_of_ble_eq_true rfl)
  rw [lg_entry_eq]
  generalize (lg_sl [.ref (gB E + 399), .int x1, .int x2, .int x3] ++ List.replicate (4 - (lg_sl [.ref (gB E + 399), .int x1, .int x2, .int x3]).length) Slot.unset).toArray = ls at hl ⊢
  exact w_X12_like C G X hl h

set_option maxRecDepth 20000 in
theorem w_X12_way_39 {r : (Int32 × Mem)} {σ : Mem} {x3 : Int32} {x4 : Int32} {y1 : Int32} {y2 : Int32} {y3 : Int32} {ls : Array Slot} {H : Heap} {locs : List Loc} (C : Cx p s m args meth c cX12_way (some .boolean) 5 RX12) (G : Gf E s) (X : Hx E σ s H locs) (hl : lv_has ls 5 [(3, .int x3), (4, .int x4)]) (h : X12_way_39 x3 x4 y1 y2 y3 σ = some r) : W p l e (RM 4) s m args below meth c H locs 0 0 (QI E below args s r.1 r.2) (F0 m 39 ls [.int y3, .int y2, .int y1, .ref (gB E + 399)]) := by
  rw [X12_way_39] at h
  obtain ⟨σ39, e39, h⟩ := bnd h
  refine afV X (runV C G X q_X12_ways k_1841 kp_46 k_1839 (rcX12 G X kd_399) (c_X12_ways l E e39) rfl hl.1 rfl (Nat.le_of_ble_eq_true rfl) ⟨Nat.le_of_ble_eq_true rfl, Nat.le_of_ble_eq_true rfl⟩ ⟨Nat.le_of_ble_eq_true rfl, Nat.le_of_ble_eq_true rfl⟩ dX12_way_39) (fun H locs X => ?_)
  refine lv_iload C.1 C.2.1 dX12_way_42 (lv_at hl 1 rfl) ?_
  refine lv_iload_n C.1 C.2.1 dX12_way_44 rfl (lv_at hl 0 rfl) ?_
  refine lv_icmp_eq (tgt := 52) C.1 C.2.1 dX12_way_45 (by decide) (fun c45 => ?_) (fun c45 => ?_)
  · replace h := ipos c45 h
    refine lv_iconst (v := 0) C.1 C.2.1 dX12_way_52 (by decide) ?_
    obtain ⟨u53, z53, h⟩ := bnd h
    rw [← Option.some.inj h]
    exact rtZ C X (gb_s z53) dX12_way_53
  · replace h := ineg c45 h
    refine lv_iconst (v := 1) C.1 C.2.1 dX12_way_48 (by decide) ?_
    refine lv_goto (tgt := 53) C.1 C.2.1 dX12_way_49 (by decide) ?_
    obtain ⟨u53, z53, h⟩ := bnd h
    rw [← Option.some.inj h]
    exact rtZ C X (gb_s z53) dX12_way_53

set_option maxRecDepth 20000 in
theorem w_X12_way {r : (Int32 × Mem)} {σ : Mem} {x1 : Int32} {x2 : Int32} {x3 : Int32} {ls : Array Slot} {H : Heap} {locs : List Loc} (C : Cx p s m args meth c cX12_way (some .boolean) 5 RX12) (G : Gf E s) (X : Hx E σ s H locs) (hl : lv_has ls 5 [(0, .ref (gB E + 399)), (1, .int x1), (2, .int x2), (3, .int x3)]) (h : X12_way x1 x2 x3 σ = some r) : W p l e (RM 4) s m args below meth c H locs 0 0 (QI E below args s r.1 r.2) (F0 m 0 ls []) := by
  rw [X12_way] at h
  refine lv_aload_n C.1 C.2.1 dX12_way_0 rfl (lv_at hl 0 rfl) ?_
  refine lv_iload_n C.1 C.2.1 dX12_way_1 rfl (lv_at hl 1 rfl) ?_
  refine lv_iload_n C.1 C.2.1 dX12_way_2 rfl (lv_at hl 2 rfl) ?_
  obtain ⟨σ3, e3, h⟩ := bnd h
  refine afV X (runV C G X q_X12_arePanes k_2018 kp_78 k_2016 (rcX12 G X kd_399) (c_X12_arePanes l E e3) rfl hl.1 rfl (Nat.le_of_ble_eq_true rfl) ⟨Nat.le_of_ble_eq_true rfl, Nat.le_of_ble_eq_true rfl⟩ ⟨Nat.le_of_ble_eq_true rfl, Nat.le_of_ble_eq_true rfl⟩ dX12_way_3) (fun H locs X => ?_)
  refine lv_aload_n C.1 C.2.1 dX12_way_6 rfl (lv_at hl 0 rfl) ?_
  refine gfX12 C G X (k := 399) kd_399 0 (v := .int (σ3 399 0)) rfl rfl (by decide) k_1651 rfl dX12_way_7 ?_
  refine lv_if_le (tgt := 15) C.1 C.2.1 dX12_way_10 (by decide) (fun c10 => ?_) (fun c10 => ?_)
  · replace h := ipos c10 h
    refine lv_aload_n C.1 C.2.1 dX12_way_15 rfl (lv_at hl 0 rfl) ?_
    obtain ⟨σ16, e16, h⟩ := bnd h
    refine afV X (runV C G X q_X12_remembers k_2026 kp_79 k_2024 (rcX12 G X kd_399) (c_X12_remembers l E e16) rfl hl.1 rfl (Nat.le_of_ble_eq_true rfl) ⟨Nat.le_of_ble_eq_true rfl, Nat.le_of_ble_eq_true rfl⟩ ⟨Nat.le_of_ble_eq_true rfl, Nat.le_of_ble_eq_true rfl⟩ dX12_way_16) (fun H locs X => ?_)
    refine lv_aload_n C.1 C.2.1 dX12_way_19 rfl (lv_at hl 0 rfl) ?_
    refine lv_iload_n C.1 C.2.1 dX12_way_20 rfl (lv_at hl 1 rfl) ?_
    refine lv_iload_n C.1 C.2.1 dX12_way_21 rfl (lv_at hl 2 rfl) ?_
    obtain ⟨r22, e22, h⟩ := bnd h
    refine afI X (runV C G X q_X12_isWay k_1951 kp_68 k_1949 (rcX12 G X kd_399) (c_X12_isWay l E e22) rfl hl.1 rfl (Nat.le_of_ble_eq_true rfl) ⟨Nat.le_of_ble_eq_true rfl, Nat.le_of_ble_eq_true rfl⟩ ⟨Nat.le_of_ble_eq_true rfl, Nat.le_of_ble_eq_true rfl⟩ dX12_way_22) (fun H locs X => ?_)
    refine lv_istore (lv' := [(4, .int r22), (0, .ref (gB E + 399)), (1, .int x1), (2, .int x2), (3, .int x3)]) C.1 C.2.1 dX12_way_25 hl (by decide) rfl (fun ls hl => ?_)
    refine lv_aload_n C.1 C.2.1 dX12_way_27 rfl (lv_at hl 1 rfl) ?_
    refine lv_iload_n C.1 C.2.1 dX12_way_28 rfl (lv_at hl 2 rfl) ?_
    refine lv_iload_n C.1 C.2.1 dX12_way_29 rfl (lv_at hl 3 rfl) ?_
    refine lv_iload_n C.1 C.2.1 dX12_way_30 rfl (lv_at hl 4 rfl) ?_
    refine lv_if_eq (tgt := 38) C.1 C.2.1 dX12_way_31 (by decide) (fun c31 => ?_) (fun c31 => ?_)
    · replace h := ipos c31 h
      refine lv_iconst (v := 0) C.1 C.2.1 dX12_way_38 (by decide) ?_
      exact w_X12_way_39 C G X (lv_sub hl [4, 0] rfl) h
    · replace h := ineg c31 h
      refine lv_iconst (v := 1) C.1 C.2.1 dX12_way_34 (by decide) ?_
      refine lv_goto (tgt := 39) C.1 C.2.1 dX12_way_35 (by decide) ?_
      exact w_X12_way_39 C G X (lv_sub hl [4, 0] rfl) h
  · replace h := ineg c10 h
    refine lv_iconst (v := 0) C.1 C.2.1 dX12_way_13 (by decide) ?_
    obtain ⟨u14, z14, h⟩ := bnd h
    rw [← Option.some.inj h]
    exact rtZ C X (gb_s z14) dX12_way_14

theorem c_X12_way (l : Launch) (E : GE) {σ : Mem} {x1 : Int32} {x2 : Int32} {x3 : Int32} {r : (Int32 × Mem)} (h : X12_way x1 x2 x3 σ = some r) : CtI l E yX12_way cX12_way 5 .boolean 4 [.ref (gB E + 399), .int x1, .int x2, .int x3] σ r.1 r.2 := by
  refine Met.ofW (cc := cX12_way) (maxL := 5) (ret := (some .boolean)) (by decide) rfl ?_
  intro p e s m args below meth c s₁ B hml hv
  obtain ⟨rfl, G, X⟩ := start hv
  have C := cxof B hml
  have hl := lv_entry [.ref (gB E + 399), .int x1, .int x2, .int x3] (n := 5) (Nat.le_of_ble_eq_true rfl)
  rw [lg_entry_eq]
  generalize (lg_sl [.ref (gB E + 399), .int x1, .int x2, .int x3] ++ List.replicate (5 - (lg_sl [.ref (gB E + 399), .int x1, .int x2, .int x3]).length) Slot.unset).toArray = ls at hl ⊢
  exact w_X12_way C G X hl h

set_option maxRecDepth 20000 in
theorem w_X12_far_22 {r : (Int32 × Mem)} {σ : Mem} {x1 : Int32} {x2 : Int32} {y1 : Int32} {ls : Array Slot} {H : Heap} {locs : List Loc} (C : Cx p s m args meth c cX12_far (some .int) 3 RX12) (G : Gf E s) (X : Hx E σ s H locs) (hl : lv_has ls 3 [(0, .ref (gB E + 399)), (1, .int x1), (2, .int x2)]) (h : X12_far_22 x1 x2 y1 σ = some r) : W p l e (RM 4) s m args below meth c H locs 0 0 (QI E below args s r.1 r.2) (F0 m 22 ls [.int y1, .ref (gB E + 399)]) := by
  rw [X12_far_22] at h
  obtain ⟨σ22, e22, h⟩ := bnd h
  refine pfX12 C G X (k := 399) kd_399 0 (x := y1) (ty := .int) rfl rfl (Nat.le_of_ble_eq_true rfl) (by decide) k_1651 rfl rfl (by decide +kernel) rfl rfl dX12_far_22 (fun H locs X => ?_)
  replace X := pu_x e22 X
  refine lv_aload_n C.1 C.2.1 dX12_far_25 rfl (lv_at hl 0 rfl) ?_
  refine gfX12 C G X (k := 399) kd_399 0 (v := .int (σ22 399 0)) rfl rfl (by decide) k_1651 rfl dX12_far_26 ?_
  refine lv_if_le (tgt := 36) C.1 C.2.1 dX12_far_29 (by decide) (fun c29 => ?_) (fun c29 => ?_)
  · replace h := ipos c29 h
    refine lv_aload_n C.1 C.2.1 dX12_far_36 rfl (lv_at hl 0 rfl) ?_
    refine lv_iload_n C.1 C.2.1 dX12_far_37 rfl (lv_at hl 1 rfl) ?_
    refine lv_iload_n C.1 C.2.1 dX12_far_38 rfl (lv_at hl 2 rfl) ?_
    obtain ⟨r39, e39, h⟩ := bnd h
    refine afI X (runV C G X q_X12_farOf k_1940 kp_66 k_1938 (rcX12 G X kd_399) (c_X12_farOf l E e39) rfl hl.1 rfl (Nat.le_of_ble_eq_true rfl) ⟨Nat.le_of_ble_eq_true rfl, Nat.le_of_ble_eq_true rfl⟩ ⟨Nat.le_of_ble_eq_true rfl, Nat.le_of_ble_eq_true rfl⟩ dX12_far_39) (fun H locs X => ?_)
    rw [← Option.some.inj h]
    exact rtI C X dX12_far_42
  · replace h := ineg c29 h
    refine lv_iconst (v := 0) C.1 C.2.1 dX12_far_32 (by decide) ?_
    refine lv_goto (tgt := 42) C.1 C.2.1 dX12_far_33 (by decide) ?_
    rw [← Option.some.inj h]
    exact rtI C X dX12_far_42

set_option maxRecDepth 20000 in
theorem w_X12_far_17 {r : (Int32 × Mem)} {σ : Mem} {x1 : Int32} {x2 : Int32} {ls : Array Slot} {H : Heap} {locs : List Loc} (C : Cx p s m args meth c cX12_far (some .int) 3 RX12) (G : Gf E s) (X : Hx E σ s H locs) (hl : lv_has ls 3 [(0, .ref (gB E + 399)), (1, .int x1), (2, .int x2)]) (h : X12_far_17 x1 x2 σ = some r) : W p l e (RM 4) s m args below meth c H locs 0 0 (QI E below args s r.1 r.2) (F0 m 17 ls [.ref (gB E + 399)]) := by
  rw [X12_far_17] at h
  refine lv_iconst (v := 1) C.1 C.2.1 dX12_far_17 (by decide) ?_
  refine lv_goto (tgt := 22) C.1 C.2.1 dX12_far_18 (by decide) ?_
  exact w_X12_far_22 C G X (lv_sub hl [0, 1, 2] rfl) h

set_option maxRecDepth 20000 in
theorem w_X12_far {r : (Int32 × Mem)} {σ : Mem} {x1 : Int32} {x2 : Int32} {ls : Array Slot} {H : Heap} {locs : List Loc} (C : Cx p s m args meth c cX12_far (some .int) 3 RX12) (G : Gf E s) (X : Hx E σ s H locs) (hl : lv_has ls 3 [(0, .ref (gB E + 399)), (1, .int x1), (2, .int x2)]) (h : X12_far x1 x2 σ = some r) : W p l e (RM 4) s m args below meth c H locs 0 0 (QI E below args s r.1 r.2) (F0 m 0 ls []) := by
  rw [X12_far] at h
  refine lv_aload_n C.1 C.2.1 dX12_far_0 rfl (lv_at hl 0 rfl) ?_
  refine lv_aload_n C.1 C.2.1 dX12_far_1 rfl (lv_at hl 0 rfl) ?_
  refine lv_iload_n C.1 C.2.1 dX12_far_2 rfl (lv_at hl 1 rfl) ?_
  obtain ⟨r3, e3, h⟩ := bnd h
  refine afI X (runV C G X q_X12_isPane k_1891 kp_54 k_1889 (rcX12 G X kd_399) (c_X12_isPane l E e3) rfl hl.1 rfl (Nat.le_of_ble_eq_true rfl) ⟨Nat.le_of_ble_eq_true rfl, Nat.le_of_ble_eq_true rfl⟩ ⟨Nat.le_of_ble_eq_true rfl, Nat.le_of_ble_eq_true rfl⟩ dX12_far_3) (fun H locs X => ?_)
  refine lv_if_eq (tgt := 17) C.1 C.2.1 dX12_far_6 (by decide) (fun c6 => ?_) (fun c6 => ?_)
  · replace h := ipos c6 h
    exact w_X12_far_17 C G X (lv_sub hl [0, 1, 2] rfl) h
  · replace h := ineg c6 h
    refine lv_aload_n C.1 C.2.1 dX12_far_9 rfl (lv_at hl 0 rfl) ?_
    refine lv_iload_n C.1 C.2.1 dX12_far_10 rfl (lv_at hl 2 rfl) ?_
    obtain ⟨r11, e11, h⟩ := bnd h
    refine afI X (runV C G X q_X12_isPane k_1891 kp_54 k_1889 (rcX12 G X kd_399) (c_X12_isPane l E e11) rfl hl.1 rfl (Nat.le_of_ble_eq_true rfl) ⟨Nat.le_of_ble_eq_true rfl, Nat.le_of_ble_eq_true rfl⟩ ⟨Nat.le_of_ble_eq_true rfl, Nat.le_of_ble_eq_true rfl⟩ dX12_far_11) (fun H locs X => ?_)
    refine lv_if_ne (tgt := 21) C.1 C.2.1 dX12_far_14 (by decide) (fun c14 => ?_) (fun c14 => ?_)
    · replace h := ineg c14 h
      refine lv_iconst (v := 0) C.1 C.2.1 dX12_far_21 (by decide) ?_
      exact w_X12_far_22 C G X (lv_sub hl [0, 1, 2] rfl) h
    · replace h := ipos c14 h
      exact w_X12_far_17 C G X (lv_sub hl [0, 1, 2] rfl) h

theorem c_X12_far (l : Launch) (E : GE) {σ : Mem} {x1 : Int32} {x2 : Int32} {r : (Int32 × Mem)} (h : X12_far x1 x2 σ = some r) : CtI l E yX12_far cX12_far 3 .int 4 [.ref (gB E + 399), .int x1, .int x2] σ r.1 r.2 := by
  refine Met.ofW (cc := cX12_far) (maxL := 3) (ret := (some .int)) (by decide) rfl ?_
  intro p e s m args below meth c s₁ B hml hv
  obtain ⟨rfl, G, X⟩ := start hv
  have C := cxof B hml
  have hl := lv_entry [.ref (gB E + 399), .int x1, .int x2] (n := 3) (Nat.le_of_ble_eq_true rfl)
  rw [lg_entry_eq]
  generalize (lg_sl [.ref (gB E + 399), .int x1, .int x2] ++ List.replicate (3 - (lg_sl [.ref (gB E + 399), .int x1, .int x2]).length) Slot.unset).toArray = ls at hl ⊢
  exact w_X12_far C G X hl h

set_option maxRecDepth 20000 in
theorem w_X12_out_33 {r : (Int32 × Mem)} {σ : Mem} {rc13 : Int32 → Int32 → Mem → Option (Int32 × Mem)} {x1 : Int32} {x2 : Int32} {ls : Array Slot} {H : Heap} {locs : List Loc} (C : Cx p s m args meth c cX12_out (some .int) 4 RX12) (G : Gf E s) (hr13 : ∀ {x1 : Int32} {x2 : Int32} {σ : Mem} {ls : Array Slot} {H : Heap} {locs : List Loc}, Hx E σ s H locs → lv_has ls 4 [(0, .ref (gB E + 399)), (1, .int x1), (2, .int x2)] → rc13 x1 x2 σ = some r → W p l e (RM 207) s m args below meth c H locs 0 0 (QI E below args s r.1 r.2) (F0 m 13 ls [])) (X : Hx E σ s H locs) (hl : lv_has ls 4 [(0, .ref (gB E + 399)), (1, .int x1), (2, .int x2)]) (h : X12_out_33 rc13 x1 x2 σ = some r) : W p l e (RM 207) s m args below meth c H locs 0 0 (QI E below args s r.1 r.2) (F0 m 33 ls []) := by
  rw [X12_out_33] at h
  refine lv_aload_n C.1 C.2.1 dX12_out_33 rfl (lv_at hl 0 rfl) ?_
  refine lv_iconst (v := 0) C.1 C.2.1 dX12_out_34 (by decide) ?_
  obtain ⟨r35, σ35, e35, h⟩ := bnd2 h
  refine afI (r0 := r35) (σ' := σ35) X (runV C G X q_X12_passes k_1927 kp_63 k_1925 (rcX12 G X kd_399) (c_X12_passes l E e35) rfl hl.1 rfl (Nat.le_of_ble_eq_true rfl) ⟨Nat.le_of_ble_eq_true rfl, Nat.le_of_ble_eq_true rfl⟩ ⟨Nat.le_of_ble_eq_true rfl, Nat.le_of_ble_eq_true rfl⟩ dX12_out_35) (fun H locs X => ?_)
  refine lv_istore_n (lv' := [(3, .int r35), (0, .ref (gB E + 399)), (1, .int x1), (2, .int x2)]) C.1 C.2.1 dX12_out_38 rfl hl (by decide) rfl (fun ls hl => ?_)
  refine lv_iinc (v := (x2 + 1)) (lv' := [(2, .int (x2 + 1)), (3, .int r35), (0, .ref (gB E + 399)), (1, .int x1)]) C.1 C.2.1 dX12_out_39 hl (k := 3) rfl rfl (by decide) rfl (fun ls hl => ?_)
  refine lv_goto (tgt := 13) C.1 C.2.1 dX12_out_42 (by decide) ?_
  exact hr13 X (lv_sub hl [2, 3, 0] rfl) h

set_option maxRecDepth 20000 in
theorem w_X12_out_45 {r : (Int32 × Mem)} {σ : Mem} {x1 : Int32} {ls : Array Slot} {H : Heap} {locs : List Loc} (C : Cx p s m args meth c cX12_out (some .int) 4 RX12) (G : Gf E s) (X : Hx E σ s H locs) (hl : lv_has ls 4 [(0, .ref (gB E + 399)), (1, .int x1)]) (h : X12_out_45 x1 σ = some r) : W p l e (RM 207) s m args below meth c H locs 0 0 (QI E below args s r.1 r.2) (F0 m 45 ls []) := by
  rw [X12_out_45] at h
  refine lv_aload_n C.1 C.2.1 dX12_out_45 rfl (lv_at hl 0 rfl) ?_
  obtain ⟨σ46, e46, h⟩ := bnd h
  refine afV X (runV C G X q_X12_comesBack k_1875 kp_53 k_1873 (rcX12 G X kd_399) (c_X12_comesBack l E e46) rfl hl.1 rfl (Nat.le_of_ble_eq_true rfl) ⟨Nat.le_of_ble_eq_true rfl, Nat.le_of_ble_eq_true rfl⟩ ⟨Nat.le_of_ble_eq_true rfl, Nat.le_of_ble_eq_true rfl⟩ dX12_out_46) (fun H locs X => ?_)
  refine lv_iload_n C.1 C.2.1 dX12_out_49 rfl (lv_at hl 1 rfl) ?_
  rw [← Option.some.inj h]
  exact rtI C X dX12_out_50

set_option maxRecDepth 20000 in
theorem w_X12_out_13 {r : (Int32 × Mem)} (C : Cx p s m args meth c cX12_out (some .int) 4 RX12) (G : Gf E s) : ∀ (f : Nat) {x1 : Int32} {x2 : Int32} {σ : Mem} {ls : Array Slot} {H : Heap} {locs : List Loc}, Hx E σ s H locs → lv_has ls 4 [(0, .ref (gB E + 399)), (1, .int x1), (2, .int x2)] → X12_out_13 f x1 x2 σ = some r → W p l e (RM 207) s m args below meth c H locs 0 0 (QI E below args s r.1 r.2) (F0 m 13 ls []) := by
  intro f
  induction f with
  | zero =>
    intro x1 x2 σ ls H locs X hl h
    rw [X12_out_13] at h
    cases h
  | succ f ih =>
    intro x1 x2 σ ls H locs X hl h
    rw [X12_out_13] at h
    refine lv_iload_n C.1 C.2.1 dX12_out_13 rfl (lv_at hl 2 rfl) ?_
    refine lv_bipush (v := 60) C.1 C.2.1 dX12_out_14 (by decide) ?_
    refine lv_icmp_gt (tgt := 45) C.1 C.2.1 dX12_out_16 (by decide) (fun c16 => ?_) (fun c16 => ?_)
    · replace h := ipos c16 h
      exact w_X12_out_45 C G X (lv_sub hl [0, 1] rfl) h
    · replace h := ineg c16 h
      refine lv_iload_n C.1 C.2.1 dX12_out_19 rfl (lv_at hl 1 rfl) ?_
      refine lv_iconst (v := -1) C.1 C.2.1 dX12_out_20 (by decide) ?_
      refine lv_icmp_ne (tgt := 45) C.1 C.2.1 dX12_out_21 (by decide) (fun c21 => ?_) (fun c21 => ?_)
      · replace h := ineg c21 h
        exact w_X12_out_45 C G X (lv_sub hl [0, 1] rfl) h
      · replace h := ipos c21 h
        refine lv_aload_n C.1 C.2.1 dX12_out_24 rfl (lv_at hl 0 rfl) ?_
        obtain ⟨r25, e25, h⟩ := bnd h
        refine afI X (runV C G X q_X12_burning k_2074 kp_82 k_2072 (rcX12 G X kd_399) (c_X12_burning l E e25) rfl hl.1 rfl (Nat.le_of_ble_eq_true rfl) ⟨Nat.le_of_ble_eq_true rfl, Nat.le_of_ble_eq_true rfl⟩ ⟨Nat.le_of_ble_eq_true rfl, Nat.le_of_ble_eq_true rfl⟩ dX12_out_25) (fun H locs X => ?_)
        refine lv_if_ne (tgt := 33) C.1 C.2.1 dX12_out_28 (by decide) (fun c28 => ?_) (fun c28 => ?_)
        · replace h := ineg c28 h
          exact w_X12_out_33 C G ih X (lv_sub hl [0, 1, 2] rfl) h
        · replace h := ipos c28 h
          refine lv_iload_n C.1 C.2.1 dX12_out_31 rfl (lv_at hl 2 rfl) ?_
          refine lv_istore_n (lv' := [(1, .int x2), (0, .ref (gB E + 399)), (2, .int x2)]) C.1 C.2.1 dX12_out_32 rfl hl (by decide) rfl (fun ls hl => ?_)
          exact w_X12_out_33 C G ih X (lv_sub hl [1, 0, 2] rfl) h

set_option maxRecDepth 20000 in
theorem w_X12_out {r : (Int32 × Mem)} {σ : Mem} {ls : Array Slot} {H : Heap} {locs : List Loc} (C : Cx p s m args meth c cX12_out (some .int) 4 RX12) (G : Gf E s) (X : Hx E σ s H locs) (hl : lv_has ls 4 [(0, .ref (gB E + 399))]) (h : X12_out σ = some r) : W p l e (RM 207) s m args below meth c H locs 0 0 (QI E below args s r.1 r.2) (F0 m 0 ls []) := by
  rw [X12_out] at h
  refine lv_aload_n C.1 C.2.1 dX12_out_0 rfl (lv_at hl 0 rfl) ?_
  refine lv_iconst (v := 0) C.1 C.2.1 dX12_out_1 (by decide) ?_
  obtain ⟨σ2, e2, h⟩ := bnd h
  refine pfX12 C G X (k := 399) kd_399 0 (x := (0 : Int32)) (ty := .int) rfl rfl (Nat.le_of_ble_eq_true rfl) (by decide) k_1651 rfl rfl (by decide +kernel) rfl rfl dX12_out_2 (fun H locs X => ?_)
  replace X := pu_x e2 X
  refine lv_aload_n C.1 C.2.1 dX12_out_5 rfl (lv_at hl 0 rfl) ?_
  obtain ⟨σ6, e6, h⟩ := bnd h
  refine afV X (runV C G X q_X12_putsAside k_1742 kp_26 k_1740 (rcX12 G X kd_399) (c_X12_putsAside l E e6) rfl hl.1 rfl (Nat.le_of_ble_eq_true rfl) ⟨Nat.le_of_ble_eq_true rfl, Nat.le_of_ble_eq_true rfl⟩ ⟨Nat.le_of_ble_eq_true rfl, Nat.le_of_ble_eq_true rfl⟩ dX12_out_6) (fun H locs X => ?_)
  refine lv_iconst (v := -1) C.1 C.2.1 dX12_out_9 (by decide) ?_
  refine lv_istore_n (lv' := [(1, .int (-1 : Int32)), (0, .ref (gB E + 399))]) C.1 C.2.1 dX12_out_10 rfl hl (by decide) rfl (fun ls hl => ?_)
  refine lv_iconst (v := 0) C.1 C.2.1 dX12_out_11 (by decide) ?_
  refine lv_istore_n (lv' := [(2, .int (0 : Int32)), (1, .int (-1 : Int32)), (0, .ref (gB E + 399))]) C.1 C.2.1 dX12_out_12 rfl hl (by decide) rfl (fun ls hl => ?_)
  exact w_X12_out_13 C G FU X (lv_sub hl [2, 1, 0] rfl) h

theorem c_X12_out (l : Launch) (E : GE) {σ : Mem} {r : (Int32 × Mem)} (h : X12_out σ = some r) : CtI l E yX12_out cX12_out 4 .int 207 [.ref (gB E + 399)] σ r.1 r.2 := by
  refine Met.ofW (cc := cX12_out) (maxL := 4) (ret := (some .int)) (by decide) rfl ?_
  intro p e s m args below meth c s₁ B hml hv
  obtain ⟨rfl, G, X⟩ := start hv
  have C := cxof B hml
  have hl := lv_entry [.ref (gB E + 399)] (n := 4) (Nat.le_of_ble_eq_true rfl)
  rw [lg_entry_eq]
  generalize (lg_sl [.ref (gB E + 399)] ++ List.replicate (4 - (lg_sl [.ref (gB E + 399)]).length) Slot.unset).toArray = ls at hl ⊢
  exact w_X12_out C G X hl h

set_option maxRecDepth 20000 in
theorem w_X12_spoon_33 {r : (Int32 × Mem)} {rc13 : Int32 → Int32 → Mem → Option (Int32 × Mem)} (C : Cx p s m args meth c cX12_spoon (some .int) 4 RX12) (G : Gf E s) (hr13 : ∀ {x1 : Int32} {x2 : Int32} {σ : Mem} {ls : Array Slot} {H : Heap} {locs : List Loc}, Hx E σ s H locs → lv_has ls 4 [(0, .ref (gB E + 399)), (1, .int x1), (2, .int x2)] → rc13 x1 x2 σ = some r → W p l e (RM 207) s m args below meth c H locs 0 0 (QI E below args s r.1 r.2) (F0 m 13 ls [])) : ∀ (f : Nat) {x1 : Int32} {x2 : Int32} {x3 : Int32} {σ : Mem} {ls : Array Slot} {H : Heap} {locs : List Loc}, Hx E σ s H locs → lv_has ls 4 [(0, .ref (gB E + 399)), (1, .int x1), (2, .int x2), (3, .int x3)] → X12_spoon_33 rc13 f x1 x2 x3 σ = some r → W p l e (RM 207) s m args below meth c H locs 0 0 (QI E below args s r.1 r.2) (F0 m 33 ls []) := by
  intro f
  induction f with
  | zero =>
    intro x1 x2 x3 σ ls H locs X hl h
    rw [X12_spoon_33] at h
    cases h
  | succ f ih =>
    intro x1 x2 x3 σ ls H locs X hl h
    rw [X12_spoon_33] at h
    refine lv_iload_n C.1 C.2.1 dX12_spoon_33 rfl (lv_at hl 3 rfl) ?_
    refine lv_if_lt (tgt := 65) C.1 C.2.1 dX12_spoon_34 (by decide) (fun c34 => ?_) (fun c34 => ?_)
    · replace h := ipos c34 h
      refine lv_aload_n C.1 C.2.1 dX12_spoon_65 rfl (lv_at hl 0 rfl) ?_
      refine lv_iconst (v := 0) C.1 C.2.1 dX12_spoon_66 (by decide) ?_
      obtain ⟨r67, σ67, e67, h⟩ := bnd2 h
      refine afI (r0 := r67) (σ' := σ67) X (runV C G X q_X12_passes k_1927 kp_63 k_1925 (rcX12 G X kd_399) (c_X12_passes l E e67) rfl hl.1 rfl (Nat.le_of_ble_eq_true rfl) ⟨Nat.le_of_ble_eq_true rfl, Nat.le_of_ble_eq_true rfl⟩ ⟨Nat.le_of_ble_eq_true rfl, Nat.le_of_ble_eq_true rfl⟩ dX12_spoon_67) (fun H locs X => ?_)
      refine lv_istore_n (lv' := [(3, .int r67), (0, .ref (gB E + 399)), (1, .int x1), (2, .int x2)]) C.1 C.2.1 dX12_spoon_70 rfl hl (by decide) rfl (fun ls hl => ?_)
      refine lv_iinc (v := (x2 + 1)) (lv' := [(2, .int (x2 + 1)), (3, .int r67), (0, .ref (gB E + 399)), (1, .int x1)]) C.1 C.2.1 dX12_spoon_71 hl (k := 3) rfl rfl (by decide) rfl (fun ls hl => ?_)
      refine lv_goto (tgt := 13) C.1 C.2.1 dX12_spoon_74 (by decide) ?_
      exact hr13 X (lv_sub hl [2, 3, 0] rfl) h
    · replace h := ineg c34 h
      refine lv_aload_n C.1 C.2.1 dX12_spoon_37 rfl (lv_at hl 0 rfl) ?_
      refine lv_iload_n C.1 C.2.1 dX12_spoon_38 rfl (lv_at hl 3 rfl) ?_
      refine lv_iconst (v := 2) C.1 C.2.1 dX12_spoon_39 (by decide) ?_
      obtain ⟨r40, e40, h⟩ := bnd h
      refine afI X (runV C G X q_X12_of k_1855 kp_49 k_1853 (rcX12 G X kd_399) (c_X12_of l E e40) rfl hl.1 rfl (Nat.le_of_ble_eq_true rfl) ⟨Nat.le_of_ble_eq_true rfl, Nat.le_of_ble_eq_true rfl⟩ ⟨Nat.le_of_ble_eq_true rfl, Nat.le_of_ble_eq_true rfl⟩ dX12_spoon_40) (fun H locs X => ?_)
      refine lv_iconst (v := -1) C.1 C.2.1 dX12_spoon_43 (by decide) ?_
      refine lv_icmp_eq (tgt := 59) C.1 C.2.1 dX12_spoon_44 (by decide) (fun c44 => ?_) (fun c44 => ?_)
      · replace h := ipos c44 h
        refine lv_iinc (v := (x3 + (-1))) (lv' := [(3, .int (x3 + (-1))), (0, .ref (gB E + 399)), (1, .int x1), (2, .int x2)]) C.1 C.2.1 dX12_spoon_59 hl (k := 3) rfl rfl (by decide) rfl (fun ls hl => ?_)
        refine lv_goto (tgt := 33) C.1 C.2.1 dX12_spoon_62 (by decide) ?_
        exact ih X (lv_sub hl [1, 2, 3, 0] rfl) h
      · replace h := ineg c44 h
        refine lv_aload_n C.1 C.2.1 dX12_spoon_47 rfl (lv_at hl 0 rfl) ?_
        refine lv_iload_n C.1 C.2.1 dX12_spoon_48 rfl (lv_at hl 3 rfl) ?_
        refine lv_iconst (v := 3) C.1 C.2.1 dX12_spoon_49 (by decide) ?_
        obtain ⟨r50, e50, h⟩ := bnd h
        refine afI X (runV C G X q_X12_of k_1855 kp_49 k_1853 (rcX12 G X kd_399) (c_X12_of l E e50) rfl hl.1 rfl (Nat.le_of_ble_eq_true rfl) ⟨Nat.le_of_ble_eq_true rfl, Nat.le_of_ble_eq_true rfl⟩ ⟨Nat.le_of_ble_eq_true rfl, Nat.le_of_ble_eq_true rfl⟩ dX12_spoon_50) (fun H locs X => ?_)
        refine lv_iconst (v := 3) C.1 C.2.1 dX12_spoon_53 (by decide) ?_
        refine lv_icmp_lt (tgt := 59) C.1 C.2.1 dX12_spoon_54 (by decide) (fun c54 => ?_) (fun c54 => ?_)
        · replace h := ipos c54 h
          refine lv_iinc (v := (x3 + (-1))) (lv' := [(3, .int (x3 + (-1))), (0, .ref (gB E + 399)), (1, .int x1), (2, .int x2)]) C.1 C.2.1 dX12_spoon_59 hl (k := 3) rfl rfl (by decide) rfl (fun ls hl => ?_)
          refine lv_goto (tgt := 33) C.1 C.2.1 dX12_spoon_62 (by decide) ?_
          exact ih X (lv_sub hl [1, 2, 3, 0] rfl) h
        · replace h := ineg c54 h
          refine lv_iload_n C.1 C.2.1 dX12_spoon_57 rfl (lv_at hl 3 rfl) ?_
          refine lv_istore_n (lv' := [(1, .int x3), (0, .ref (gB E + 399)), (2, .int x2), (3, .int x3)]) C.1 C.2.1 dX12_spoon_58 rfl hl (by decide) rfl (fun ls hl => ?_)
          refine lv_iinc (v := (x3 + (-1))) (lv' := [(3, .int (x3 + (-1))), (1, .int x3), (0, .ref (gB E + 399)), (2, .int x2)]) C.1 C.2.1 dX12_spoon_59 hl (k := 3) rfl rfl (by decide) rfl (fun ls hl => ?_)
          refine lv_goto (tgt := 33) C.1 C.2.1 dX12_spoon_62 (by decide) ?_
          exact ih X (lv_sub hl [2, 1, 3, 0] rfl) h

set_option maxRecDepth 20000 in
theorem w_X12_spoon_77 {r : (Int32 × Mem)} {σ : Mem} {x1 : Int32} {ls : Array Slot} {H : Heap} {locs : List Loc} (C : Cx p s m args meth c cX12_spoon (some .int) 4 RX12) (G : Gf E s) (X : Hx E σ s H locs) (hl : lv_has ls 4 [(0, .ref (gB E + 399)), (1, .int x1)]) (h : X12_spoon_77 x1 σ = some r) : W p l e (RM 207) s m args below meth c H locs 0 0 (QI E below args s r.1 r.2) (F0 m 77 ls []) := by
  rw [X12_spoon_77] at h
  refine lv_aload_n C.1 C.2.1 dX12_spoon_77 rfl (lv_at hl 0 rfl) ?_
  obtain ⟨σ78, e78, h⟩ := bnd h
  refine afV X (runV C G X q_X12_comesBack k_1875 kp_53 k_1873 (rcX12 G X kd_399) (c_X12_comesBack l E e78) rfl hl.1 rfl (Nat.le_of_ble_eq_true rfl) ⟨Nat.le_of_ble_eq_true rfl, Nat.le_of_ble_eq_true rfl⟩ ⟨Nat.le_of_ble_eq_true rfl, Nat.le_of_ble_eq_true rfl⟩ dX12_spoon_78) (fun H locs X => ?_)
  refine lv_iload_n C.1 C.2.1 dX12_spoon_81 rfl (lv_at hl 1 rfl) ?_
  rw [← Option.some.inj h]
  exact rtI C X dX12_spoon_82

set_option maxRecDepth 20000 in
theorem w_X12_spoon_13 {r : (Int32 × Mem)} (C : Cx p s m args meth c cX12_spoon (some .int) 4 RX12) (G : Gf E s) : ∀ (f : Nat) {x1 : Int32} {x2 : Int32} {σ : Mem} {ls : Array Slot} {H : Heap} {locs : List Loc}, Hx E σ s H locs → lv_has ls 4 [(0, .ref (gB E + 399)), (1, .int x1), (2, .int x2)] → X12_spoon_13 f x1 x2 σ = some r → W p l e (RM 207) s m args below meth c H locs 0 0 (QI E below args s r.1 r.2) (F0 m 13 ls []) := by
  intro f
  induction f with
  | zero =>
    intro x1 x2 σ ls H locs X hl h
    rw [X12_spoon_13] at h
    cases h
  | succ f ih =>
    intro x1 x2 σ ls H locs X hl h
    rw [X12_spoon_13] at h
    refine lv_iload_n C.1 C.2.1 dX12_spoon_13 rfl (lv_at hl 2 rfl) ?_
    refine lv_bipush (v := 60) C.1 C.2.1 dX12_spoon_14 (by decide) ?_
    refine lv_icmp_gt (tgt := 77) C.1 C.2.1 dX12_spoon_16 (by decide) (fun c16 => ?_) (fun c16 => ?_)
    · replace h := ipos c16 h
      exact w_X12_spoon_77 C G X (lv_sub hl [0, 1] rfl) h
    · replace h := ineg c16 h
      refine lv_iload_n C.1 C.2.1 dX12_spoon_19 rfl (lv_at hl 1 rfl) ?_
      refine lv_iconst (v := -1) C.1 C.2.1 dX12_spoon_20 (by decide) ?_
      refine lv_icmp_ne (tgt := 77) C.1 C.2.1 dX12_spoon_21 (by decide) (fun c21 => ?_) (fun c21 => ?_)
      · replace h := ineg c21 h
        exact w_X12_spoon_77 C G X (lv_sub hl [0, 1] rfl) h
      · replace h := ipos c21 h
        refine lv_aload_n C.1 C.2.1 dX12_spoon_24 rfl (lv_at hl 0 rfl) ?_
        refine gfX12 C G X (k := 399) kd_399 1 (v := .ref (gB E + 400)) rfl rfl (by decide) k_1652 rfl dX12_spoon_25 ?_
        refine lv_iconst (v := 3) C.1 C.2.1 dX12_spoon_28 (by decide) ?_
        obtain ⟨r29, e29, h⟩ := bnd h
        refine ald C G X (k := 400) kd_400 (ag_s e29).1 dX12_spoon_29 ?_
        rw [(ag_s e29).2]
        refine lv_iconst (v := 1) C.1 C.2.1 dX12_spoon_30 (by decide) ?_
        refine lv_isub C.1 C.2.1 dX12_spoon_31 ?_
        refine lv_istore_n (lv' := [(3, .int (r29 - (1 : Int32))), (0, .ref (gB E + 399)), (1, .int x1), (2, .int x2)]) C.1 C.2.1 dX12_spoon_32 rfl hl (by decide) rfl (fun ls hl => ?_)
        exact w_X12_spoon_33 C G ih FU X (lv_sub hl [1, 2, 3, 0] rfl) h

set_option maxRecDepth 20000 in
theorem w_X12_spoon {r : (Int32 × Mem)} {σ : Mem} {ls : Array Slot} {H : Heap} {locs : List Loc} (C : Cx p s m args meth c cX12_spoon (some .int) 4 RX12) (G : Gf E s) (X : Hx E σ s H locs) (hl : lv_has ls 4 [(0, .ref (gB E + 399))]) (h : X12_spoon σ = some r) : W p l e (RM 207) s m args below meth c H locs 0 0 (QI E below args s r.1 r.2) (F0 m 0 ls []) := by
  rw [X12_spoon] at h
  refine lv_aload_n C.1 C.2.1 dX12_spoon_0 rfl (lv_at hl 0 rfl) ?_
  refine lv_iconst (v := 0) C.1 C.2.1 dX12_spoon_1 (by decide) ?_
  obtain ⟨σ2, e2, h⟩ := bnd h
  refine pfX12 C G X (k := 399) kd_399 0 (x := (0 : Int32)) (ty := .int) rfl rfl (Nat.le_of_ble_eq_true rfl) (by decide) k_1651 rfl rfl (by decide +kernel) rfl rfl dX12_spoon_2 (fun H locs X => ?_)
  replace X := pu_x e2 X
  refine lv_aload_n C.1 C.2.1 dX12_spoon_5 rfl (lv_at hl 0 rfl) ?_
  obtain ⟨σ6, e6, h⟩ := bnd h
  refine afV X (runV C G X q_X12_putsAside k_1742 kp_26 k_1740 (rcX12 G X kd_399) (c_X12_putsAside l E e6) rfl hl.1 rfl (Nat.le_of_ble_eq_true rfl) ⟨Nat.le_of_ble_eq_true rfl, Nat.le_of_ble_eq_true rfl⟩ ⟨Nat.le_of_ble_eq_true rfl, Nat.le_of_ble_eq_true rfl⟩ dX12_spoon_6) (fun H locs X => ?_)
  refine lv_iconst (v := -1) C.1 C.2.1 dX12_spoon_9 (by decide) ?_
  refine lv_istore_n (lv' := [(1, .int (-1 : Int32)), (0, .ref (gB E + 399))]) C.1 C.2.1 dX12_spoon_10 rfl hl (by decide) rfl (fun ls hl => ?_)
  refine lv_iconst (v := 0) C.1 C.2.1 dX12_spoon_11 (by decide) ?_
  refine lv_istore_n (lv' := [(2, .int (0 : Int32)), (1, .int (-1 : Int32)), (0, .ref (gB E + 399))]) C.1 C.2.1 dX12_spoon_12 rfl hl (by decide) rfl (fun ls hl => ?_)
  exact w_X12_spoon_13 C G FU X (lv_sub hl [2, 1, 0] rfl) h

theorem c_X12_spoon (l : Launch) (E : GE) {σ : Mem} {r : (Int32 × Mem)} (h : X12_spoon σ = some r) : CtI l E yX12_spoon cX12_spoon 4 .int 207 [.ref (gB E + 399)] σ r.1 r.2 := by
  refine Met.ofW (cc := cX12_spoon) (maxL := 4) (ret := (some .int)) (by decide) rfl ?_
  intro p e s m args below meth c s₁ B hml hv
  obtain ⟨rfl, G, X⟩ := start hv
  have C := cxof B hml
  have hl := lv_entry [.ref (gB E + 399)] (n := 4) (Nat.le_of_ble_eq_true rfl)
  rw [lg_entry_eq]
  generalize (lg_sl [.ref (gB E + 399)] ++ List.replicate (4 - (lg_sl [.ref (gB E + 399)]).length) Slot.unset).toArray = ls at hl ⊢
  exact w_X12_spoon C G X hl h

set_option maxRecDepth 20000 in
theorem w_X12_never_45 {r : (Int32 × Mem)} {σ : Mem} {rc9 : Int32 → Int32 → Mem → Option (Int32 × Mem)} {x2 : Int32} {y0 : Int32} {y1 : Int32} {ls : Array Slot} {H : Heap} {locs : List Loc} (C : Cx p s m args meth c cX12_never (some .int) 3 RX12) (G : Gf E s) (hr9 : ∀ {x1 : Int32} {x2 : Int32} {σ : Mem} {ls : Array Slot} {H : Heap} {locs : List Loc}, Hx E σ s H locs → lv_has ls 3 [(0, .ref (gB E + 399)), (1, .int x1), (2, .int x2)] → rc9 x1 x2 σ = some r → W p l e (RM 207) s m args below meth c H locs 0 0 (QI E below args s r.1 r.2) (F0 m 9 ls [])) (X : Hx E σ s H locs) (hl : lv_has ls 3 [(0, .ref (gB E + 399)), (2, .int x2)]) (h : X12_never_45 rc9 x2 y0 y1 σ = some r) : W p l e (RM 207) s m args below meth c H locs 0 0 (QI E below args s r.1 r.2) (F0 m 45 ls [.int y1, .int y0]) := by
  rw [X12_never_45] at h
  refine lv_ior C.1 C.2.1 dX12_never_45 ?_
  refine lv_istore_n (lv' := [(1, .int (y0 ||| y1)), (0, .ref (gB E + 399)), (2, .int x2)]) C.1 C.2.1 dX12_never_46 rfl hl (by decide) rfl (fun ls hl => ?_)
  refine lv_iinc (v := (x2 + 1)) (lv' := [(2, .int (x2 + 1)), (1, .int (y0 ||| y1)), (0, .ref (gB E + 399))]) C.1 C.2.1 dX12_never_47 hl (k := 2) rfl rfl (by decide) rfl (fun ls hl => ?_)
  refine lv_goto (tgt := 9) C.1 C.2.1 dX12_never_50 (by decide) ?_
  exact hr9 X (lv_sub hl [2, 1, 0] rfl) h

set_option maxRecDepth 20000 in
theorem w_X12_never_44 {r : (Int32 × Mem)} {σ : Mem} {rc9 : Int32 → Int32 → Mem → Option (Int32 × Mem)} {x2 : Int32} {y0 : Int32} {ls : Array Slot} {H : Heap} {locs : List Loc} (C : Cx p s m args meth c cX12_never (some .int) 3 RX12) (G : Gf E s) (hr9 : ∀ {x1 : Int32} {x2 : Int32} {σ : Mem} {ls : Array Slot} {H : Heap} {locs : List Loc}, Hx E σ s H locs → lv_has ls 3 [(0, .ref (gB E + 399)), (1, .int x1), (2, .int x2)] → rc9 x1 x2 σ = some r → W p l e (RM 207) s m args below meth c H locs 0 0 (QI E below args s r.1 r.2) (F0 m 9 ls [])) (X : Hx E σ s H locs) (hl : lv_has ls 3 [(0, .ref (gB E + 399)), (2, .int x2)]) (h : X12_never_44 rc9 x2 y0 σ = some r) : W p l e (RM 207) s m args below meth c H locs 0 0 (QI E below args s r.1 r.2) (F0 m 44 ls [.int y0]) := by
  rw [X12_never_44] at h
  refine lv_iconst (v := 0) C.1 C.2.1 dX12_never_44 (by decide) ?_
  exact w_X12_never_45 C G hr9 X (lv_sub hl [0, 1] rfl) h

set_option maxRecDepth 20000 in
theorem w_X12_never_9 {r : (Int32 × Mem)} (C : Cx p s m args meth c cX12_never (some .int) 3 RX12) (G : Gf E s) : ∀ (f : Nat) {x1 : Int32} {x2 : Int32} {σ : Mem} {ls : Array Slot} {H : Heap} {locs : List Loc}, Hx E σ s H locs → lv_has ls 3 [(0, .ref (gB E + 399)), (1, .int x1), (2, .int x2)] → X12_never_9 f x1 x2 σ = some r → W p l e (RM 207) s m args below meth c H locs 0 0 (QI E below args s r.1 r.2) (F0 m 9 ls []) := by
  intro f
  induction f with
  | zero =>
    intro x1 x2 σ ls H locs X hl h
    rw [X12_never_9] at h
    cases h
  | succ f ih =>
    intro x1 x2 σ ls H locs X hl h
    rw [X12_never_9] at h
    refine lv_iload_n C.1 C.2.1 dX12_never_9 rfl (lv_at hl 2 rfl) ?_
    refine lv_aload_n C.1 C.2.1 dX12_never_10 rfl (lv_at hl 0 rfl) ?_
    refine gfX12 C G X (k := 399) kd_399 1 (v := .ref (gB E + 400)) rfl rfl (by decide) k_1652 rfl dX12_never_11 ?_
    refine lv_iconst (v := 3) C.1 C.2.1 dX12_never_14 (by decide) ?_
    obtain ⟨r15, e15, h⟩ := bnd h
    refine ald C G X (k := 400) kd_400 (ag_s e15).1 dX12_never_15 ?_
    rw [(ag_s e15).2]
    refine lv_icmp_ge (tgt := 53) C.1 C.2.1 dX12_never_16 (by decide) (fun c16 => ?_) (fun c16 => ?_)
    · replace h := ipos c16 h
      refine lv_iload_n C.1 C.2.1 dX12_never_53 rfl (lv_at hl 1 rfl) ?_
      rw [← Option.some.inj h]
      exact rtI C X dX12_never_54
    · replace h := ineg c16 h
      refine lv_iload_n C.1 C.2.1 dX12_never_19 rfl (lv_at hl 1 rfl) ?_
      refine lv_aload_n C.1 C.2.1 dX12_never_20 rfl (lv_at hl 0 rfl) ?_
      refine lv_iload_n C.1 C.2.1 dX12_never_21 rfl (lv_at hl 2 rfl) ?_
      refine lv_iconst (v := 1) C.1 C.2.1 dX12_never_22 (by decide) ?_
      obtain ⟨r23, e23, h⟩ := bnd h
      refine afI X (runV C G X q_X12_of k_1855 kp_49 k_1853 (rcX12 G X kd_399) (c_X12_of l E e23) rfl hl.1 rfl (Nat.le_of_ble_eq_true rfl) ⟨Nat.le_of_ble_eq_true rfl, Nat.le_of_ble_eq_true rfl⟩ ⟨Nat.le_of_ble_eq_true rfl, Nat.le_of_ble_eq_true rfl⟩ dX12_never_23) (fun H locs X => ?_)
      refine lv_if_ne (tgt := 44) C.1 C.2.1 dX12_never_26 (by decide) (fun c26 => ?_) (fun c26 => ?_)
      · replace h := ineg c26 h
        exact w_X12_never_44 C G ih X (lv_sub hl [0, 2] rfl) h
      · replace h := ipos c26 h
        refine lv_aload_n C.1 C.2.1 dX12_never_29 rfl (lv_at hl 0 rfl) ?_
        refine lv_iload_n C.1 C.2.1 dX12_never_30 rfl (lv_at hl 2 rfl) ?_
        refine lv_iconst (v := 0) C.1 C.2.1 dX12_never_31 (by decide) ?_
        obtain ⟨r32, σ32, e32, h⟩ := bnd2 h
        refine afI (r0 := r32) (σ' := σ32) X (runV C G X q_X12_lighters k_1895 kp_55 k_1893 (rcX12 G X kd_399) (c_X12_lighters l E e32) rfl hl.1 rfl (Nat.le_of_ble_eq_true rfl) ⟨Nat.le_of_ble_eq_true rfl, Nat.le_of_ble_eq_true rfl⟩ ⟨Nat.le_of_ble_eq_true rfl, Nat.le_of_ble_eq_true rfl⟩ dX12_never_32) (fun H locs X => ?_)
        refine lv_if_ne (tgt := 44) C.1 C.2.1 dX12_never_35 (by decide) (fun c35 => ?_) (fun c35 => ?_)
        · replace h := ineg c35 h
          exact w_X12_never_44 C G ih X (lv_sub hl [0, 2] rfl) h
        · replace h := ipos c35 h
          refine lv_iconst (v := 1) C.1 C.2.1 dX12_never_38 (by decide) ?_
          refine lv_iload_n C.1 C.2.1 dX12_never_39 rfl (lv_at hl 2 rfl) ?_
          refine lv_ishl C.1 C.2.1 dX12_never_40 ?_
          refine lv_goto (tgt := 45) C.1 C.2.1 dX12_never_41 (by decide) ?_
          exact w_X12_never_45 C G ih X (lv_sub hl [0, 2] rfl) h

set_option maxRecDepth 20000 in
theorem w_X12_never {r : (Int32 × Mem)} {σ : Mem} {ls : Array Slot} {H : Heap} {locs : List Loc} (C : Cx p s m args meth c cX12_never (some .int) 3 RX12) (G : Gf E s) (X : Hx E σ s H locs) (hl : lv_has ls 3 [(0, .ref (gB E + 399))]) (h : X12_never σ = some r) : W p l e (RM 207) s m args below meth c H locs 0 0 (QI E below args s r.1 r.2) (F0 m 0 ls []) := by
  rw [X12_never] at h
  refine lv_aload_n C.1 C.2.1 dX12_never_0 rfl (lv_at hl 0 rfl) ?_
  refine lv_iconst (v := 0) C.1 C.2.1 dX12_never_1 (by decide) ?_
  obtain ⟨σ2, e2, h⟩ := bnd h
  refine pfX12 C G X (k := 399) kd_399 0 (x := (0 : Int32)) (ty := .int) rfl rfl (Nat.le_of_ble_eq_true rfl) (by decide) k_1651 rfl rfl (by decide +kernel) rfl rfl dX12_never_2 (fun H locs X => ?_)
  replace X := pu_x e2 X
  refine lv_iconst (v := 0) C.1 C.2.1 dX12_never_5 (by decide) ?_
  refine lv_istore_n (lv' := [(1, .int (0 : Int32)), (0, .ref (gB E + 399))]) C.1 C.2.1 dX12_never_6 rfl hl (by decide) rfl (fun ls hl => ?_)
  refine lv_iconst (v := 0) C.1 C.2.1 dX12_never_7 (by decide) ?_
  refine lv_istore_n (lv' := [(2, .int (0 : Int32)), (1, .int (0 : Int32)), (0, .ref (gB E + 399))]) C.1 C.2.1 dX12_never_8 rfl hl (by decide) rfl (fun ls hl => ?_)
  exact w_X12_never_9 C G FU X (lv_sub hl [2, 1, 0] rfl) h

theorem c_X12_never (l : Launch) (E : GE) {σ : Mem} {r : (Int32 × Mem)} (h : X12_never σ = some r) : CtI l E yX12_never cX12_never 3 .int 207 [.ref (gB E + 399)] σ r.1 r.2 := by
  refine Met.ofW (cc := cX12_never) (maxL := 3) (ret := (some .int)) (by decide) rfl ?_
  intro p e s m args below meth c s₁ B hml hv
  obtain ⟨rfl, G, X⟩ := start hv
  have C := cxof B hml
  have hl := lv_entry [.ref (gB E + 399)] (n := 3) (Nat.le_of_ble_eq_true rfl)
  rw [lg_entry_eq]
  generalize (lg_sl [.ref (gB E + 399)] ++ List.replicate (3 - (lg_sl [.ref (gB E + 399)]).length) Slot.unset).toArray = ls at hl ⊢
  exact w_X12_never C G X hl h

set_option maxRecDepth 20000 in
theorem w_X12_arePanesTold_81 {r : Int32} {σ : Mem} {rc17 : Int32 → Int32 → Int32 → Int32 → Option Int32} {x1 : Int32} {x2 : Int32} {x4 : Int32} {y0 : Int32} {y1 : Int32} {ls : Array Slot} {H : Heap} {locs : List Loc} (C : Cx p s m args meth c cX12_arePanesTold (some .boolean) 5 RX12) (G : Gf E s) (hr17 : ∀ {x1 : Int32} {x2 : Int32} {x3 : Int32} {x4 : Int32} {ls : Array Slot} {H : Heap} {locs : List Loc}, Hx E σ s H locs → lv_has ls 5 [(0, .ref (gB E + 399)), (1, .int x1), (2, .int x2), (3, .int x3), (4, .int x4)] → rc17 x1 x2 x3 x4 = some r → W p l e (RM 2) s m args below meth c H locs 0 0 (QI E below args s r σ) (F0 m 17 ls [])) (X : Hx E σ s H locs) (hl : lv_has ls 5 [(0, .ref (gB E + 399)), (1, .int x1), (2, .int x2), (4, .int x4)]) (h : X12_arePanesTold_81 σ rc17 x1 x2 x4 y0 y1 = some r) : W p l e (RM 2) s m args below meth c H locs 0 0 (QI E below args s r σ) (F0 m 81 ls [.int y1, .int y0]) := by
  rw [X12_arePanesTold_81] at h
  refine lv_ior C.1 C.2.1 dX12_arePanesTold_81 ?_
  refine lv_istore_n (lv' := [(3, .int (y0 ||| y1)), (0, .ref (gB E + 399)), (1, .int x1), (2, .int x2), (4, .int x4)]) C.1 C.2.1 dX12_arePanesTold_82 rfl hl (by decide) rfl (fun ls hl => ?_)
  refine lv_iinc (v := (x4 + 1)) (lv' := [(4, .int (x4 + 1)), (3, .int (y0 ||| y1)), (0, .ref (gB E + 399)), (1, .int x1), (2, .int x2)]) C.1 C.2.1 dX12_arePanesTold_83 hl (k := 4) rfl rfl (by decide) rfl (fun ls hl => ?_)
  refine lv_goto (tgt := 17) C.1 C.2.1 dX12_arePanesTold_86 (by decide) ?_
  exact hr17 X (lv_sub hl [2, 3, 4, 1, 0] rfl) h

set_option maxRecDepth 20000 in
theorem w_X12_arePanesTold_62 {r : Int32} {σ : Mem} {rc17 : Int32 → Int32 → Int32 → Int32 → Option Int32} {x1 : Int32} {x3 : Int32} {x4 : Int32} {y0 : Int32} {ls : Array Slot} {H : Heap} {locs : List Loc} (C : Cx p s m args meth c cX12_arePanesTold (some .boolean) 5 RX12) (G : Gf E s) (hr17 : ∀ {x1 : Int32} {x2 : Int32} {x3 : Int32} {x4 : Int32} {ls : Array Slot} {H : Heap} {locs : List Loc}, Hx E σ s H locs → lv_has ls 5 [(0, .ref (gB E + 399)), (1, .int x1), (2, .int x2), (3, .int x3), (4, .int x4)] → rc17 x1 x2 x3 x4 = some r → W p l e (RM 2) s m args below meth c H locs 0 0 (QI E below args s r σ) (F0 m 17 ls [])) (X : Hx E σ s H locs) (hl : lv_has ls 5 [(0, .ref (gB E + 399)), (1, .int x1), (3, .int x3), (4, .int x4)]) (h : X12_arePanesTold_62 σ rc17 x1 x3 x4 y0 = some r) : W p l e (RM 2) s m args below meth c H locs 0 0 (QI E below args s r σ) (F0 m 62 ls [.int y0]) := by
  rw [X12_arePanesTold_62] at h
  refine lv_istore_n (lv' := [(2, .int y0), (0, .ref (gB E + 399)), (1, .int x1), (3, .int x3), (4, .int x4)]) C.1 C.2.1 dX12_arePanesTold_62 rfl hl (by decide) rfl (fun ls hl => ?_)
  refine lv_iload_n C.1 C.2.1 dX12_arePanesTold_63 rfl (lv_at hl 3 rfl) ?_
  refine lv_iload_n C.1 C.2.1 dX12_arePanesTold_64 rfl (lv_at hl 0 rfl) ?_
  refine lv_if_eq (tgt := 80) C.1 C.2.1 dX12_arePanesTold_65 (by decide) (fun c65 => ?_) (fun c65 => ?_)
  · replace h := ipos c65 h
    refine lv_iconst (v := 0) C.1 C.2.1 dX12_arePanesTold_80 (by decide) ?_
    exact w_X12_arePanesTold_81 C G hr17 X (lv_sub hl [1, 2, 0, 4] rfl) h
  · replace h := ineg c65 h
    refine lv_iconst (v := 1) C.1 C.2.1 dX12_arePanesTold_68 (by decide) ?_
    refine lv_aload_n C.1 C.2.1 dX12_arePanesTold_69 rfl (lv_at hl 1 rfl) ?_
    refine gfX12 C G X (k := 399) kd_399 7 (v := .ref (gB E + 404)) rfl rfl (by decide) k_1658 rfl dX12_arePanesTold_70 ?_
    refine lv_iload C.1 C.2.1 dX12_arePanesTold_73 (lv_at hl 4 rfl) ?_
    obtain ⟨r75, e75, h⟩ := bnd h
    refine ald C G X (k := 404) kd_404 (ag_s e75).1 dX12_arePanesTold_75 ?_
    rw [(ag_s e75).2]
    refine lv_ishl C.1 C.2.1 dX12_arePanesTold_76 ?_
    refine lv_goto (tgt := 81) C.1 C.2.1 dX12_arePanesTold_77 (by decide) ?_
    exact w_X12_arePanesTold_81 C G hr17 X (lv_sub hl [1, 2, 0, 4] rfl) h

set_option maxRecDepth 20000 in
theorem w_X12_arePanesTold_61 {r : Int32} {σ : Mem} {rc17 : Int32 → Int32 → Int32 → Int32 → Option Int32} {x1 : Int32} {x3 : Int32} {x4 : Int32} {ls : Array Slot} {H : Heap} {locs : List Loc} (C : Cx p s m args meth c cX12_arePanesTold (some .boolean) 5 RX12) (G : Gf E s) (hr17 : ∀ {x1 : Int32} {x2 : Int32} {x3 : Int32} {x4 : Int32} {ls : Array Slot} {H : Heap} {locs : List Loc}, Hx E σ s H locs → lv_has ls 5 [(0, .ref (gB E + 399)), (1, .int x1), (2, .int x2), (3, .int x3), (4, .int x4)] → rc17 x1 x2 x3 x4 = some r → W p l e (RM 2) s m args below meth c H locs 0 0 (QI E below args s r σ) (F0 m 17 ls [])) (X : Hx E σ s H locs) (hl : lv_has ls 5 [(0, .ref (gB E + 399)), (1, .int x1), (3, .int x3), (4, .int x4)]) (h : X12_arePanesTold_61 σ rc17 x1 x3 x4 = some r) : W p l e (RM 2) s m args below meth c H locs 0 0 (QI E below args s r σ) (F0 m 61 ls []) := by
  rw [X12_arePanesTold_61] at h
  refine lv_iconst (v := 0) C.1 C.2.1 dX12_arePanesTold_61 (by decide) ?_
  exact w_X12_arePanesTold_62 C G hr17 X (lv_sub hl [0, 1, 2, 3] rfl) h

set_option maxRecDepth 20000 in
theorem w_X12_arePanesTold_17 {r : Int32} {σ : Mem} (C : Cx p s m args meth c cX12_arePanesTold (some .boolean) 5 RX12) (G : Gf E s) : ∀ (f : Nat) {x1 : Int32} {x2 : Int32} {x3 : Int32} {x4 : Int32} {ls : Array Slot} {H : Heap} {locs : List Loc}, Hx E σ s H locs → lv_has ls 5 [(0, .ref (gB E + 399)), (1, .int x1), (2, .int x2), (3, .int x3), (4, .int x4)] → X12_arePanesTold_17 σ f x1 x2 x3 x4 = some r → W p l e (RM 2) s m args below meth c H locs 0 0 (QI E below args s r σ) (F0 m 17 ls []) := by
  intro f
  induction f with
  | zero =>
    intro x1 x2 x3 x4 ls H locs X hl h
    rw [X12_arePanesTold_17] at h
    cases h
  | succ f ih =>
    intro x1 x2 x3 x4 ls H locs X hl h
    rw [X12_arePanesTold_17] at h
    refine lv_iload C.1 C.2.1 dX12_arePanesTold_17 (lv_at hl 4 rfl) ?_
    refine lv_iload_n C.1 C.2.1 dX12_arePanesTold_19 rfl (lv_at hl 1 rfl) ?_
    refine lv_icmp_ge (tgt := 89) C.1 C.2.1 dX12_arePanesTold_20 (by decide) (fun c20 => ?_) (fun c20 => ?_)
    · replace h := ipos c20 h
      refine lv_iload_n C.1 C.2.1 dX12_arePanesTold_89 rfl (lv_at hl 2 rfl) ?_
      obtain ⟨u90, z90, h⟩ := bnd h
      rw [← Option.some.inj h]
      exact rtZ C X (gb_s z90) dX12_arePanesTold_90
    · replace h := ineg c20 h
      refine lv_iload_n C.1 C.2.1 dX12_arePanesTold_23 rfl (lv_at hl 2 rfl) ?_
      refine lv_if_eq (tgt := 89) C.1 C.2.1 dX12_arePanesTold_24 (by decide) (fun c24 => ?_) (fun c24 => ?_)
      · replace h := ipos c24 h
        refine lv_iload_n C.1 C.2.1 dX12_arePanesTold_89 rfl (lv_at hl 2 rfl) ?_
        obtain ⟨u90, z90, h⟩ := bnd h
        rw [← Option.some.inj h]
        exact rtZ C X (gb_s z90) dX12_arePanesTold_90
      · replace h := ineg c24 h
        refine lv_aload_n C.1 C.2.1 dX12_arePanesTold_27 rfl (lv_at hl 0 rfl) ?_
        refine gfX12 C G X (k := 399) kd_399 7 (v := .ref (gB E + 404)) rfl rfl (by decide) k_1658 rfl dX12_arePanesTold_28 ?_
        refine lv_iload C.1 C.2.1 dX12_arePanesTold_31 (lv_at hl 4 rfl) ?_
        obtain ⟨r33, e33, h⟩ := bnd h
        refine ald C G X (k := 404) kd_404 (ag_s e33).1 dX12_arePanesTold_33 ?_
        rw [(ag_s e33).2]
        refine lv_aload_n C.1 C.2.1 dX12_arePanesTold_34 rfl (lv_at hl 0 rfl) ?_
        refine gfX12 C G X (k := 399) kd_399 1 (v := .ref (gB E + 400)) rfl rfl (by decide) k_1652 rfl dX12_arePanesTold_35 ?_
        refine lv_iconst (v := 3) C.1 C.2.1 dX12_arePanesTold_38 (by decide) ?_
        obtain ⟨r39, e39, h⟩ := bnd h
        refine ald C G X (k := 400) kd_400 (ag_s e39).1 dX12_arePanesTold_39 ?_
        rw [(ag_s e39).2]
        refine lv_icmp_ge (tgt := 61) C.1 C.2.1 dX12_arePanesTold_40 (by decide) (fun c40 => ?_) (fun c40 => ?_)
        · replace h := ipos c40 h
          exact w_X12_arePanesTold_61 C G ih X (lv_sub hl [0, 1, 3, 4] rfl) h
        · replace h := ineg c40 h
          refine lv_iload_n C.1 C.2.1 dX12_arePanesTold_43 rfl (lv_at hl 3 rfl) ?_
          refine lv_aload_n C.1 C.2.1 dX12_arePanesTold_44 rfl (lv_at hl 0 rfl) ?_
          refine gfX12 C G X (k := 399) kd_399 7 (v := .ref (gB E + 404)) rfl rfl (by decide) k_1658 rfl dX12_arePanesTold_45 ?_
          refine lv_iload C.1 C.2.1 dX12_arePanesTold_48 (lv_at hl 4 rfl) ?_
          obtain ⟨r50, e50, h⟩ := bnd h
          refine ald C G X (k := 404) kd_404 (ag_s e50).1 dX12_arePanesTold_50 ?_
          rw [(ag_s e50).2]
          obtain ⟨r51, e51, h⟩ := bnd h
          refine afI X (runS C G X q_X12_isOf k_1943 k_1942 (c_X12_isOf l E e51) rfl hl.1 rfl (Nat.le_of_ble_eq_true rfl) ⟨Nat.le_of_ble_eq_true rfl, Nat.le_of_ble_eq_true rfl⟩ ⟨Nat.le_of_ble_eq_true rfl, Nat.le_of_ble_eq_true rfl⟩ dX12_arePanesTold_51) (fun H locs X => ?_)
          refine lv_if_ne (tgt := 61) C.1 C.2.1 dX12_arePanesTold_54 (by decide) (fun c54 => ?_) (fun c54 => ?_)
          · replace h := ineg c54 h
            exact w_X12_arePanesTold_61 C G ih X (lv_sub hl [0, 1, 3, 4] rfl) h
          · replace h := ipos c54 h
            refine lv_iconst (v := 1) C.1 C.2.1 dX12_arePanesTold_57 (by decide) ?_
            refine lv_goto (tgt := 62) C.1 C.2.1 dX12_arePanesTold_58 (by decide) ?_
            exact w_X12_arePanesTold_62 C G ih X (lv_sub hl [0, 1, 3, 4] rfl) h

set_option maxRecDepth 20000 in
theorem w_X12_arePanesTold_11 {r : Int32} {σ : Mem} {x1 : Int32} {y0 : Int32} {ls : Array Slot} {H : Heap} {locs : List Loc} (C : Cx p s m args meth c cX12_arePanesTold (some .boolean) 5 RX12) (G : Gf E s) (X : Hx E σ s H locs) (hl : lv_has ls 5 [(0, .ref (gB E + 399)), (1, .int x1)]) (h : X12_arePanesTold_11 σ x1 y0 = some r) : W p l e (RM 2) s m args below meth c H locs 0 0 (QI E below args s r σ) (F0 m 11 ls [.int y0]) := by
  rw [X12_arePanesTold_11] at h
  refine lv_istore_n (lv' := [(2, .int y0), (0, .ref (gB E + 399)), (1, .int x1)]) C.1 C.2.1 dX12_arePanesTold_11 rfl hl (by decide) rfl (fun ls hl => ?_)
  refine lv_iconst (v := 0) C.1 C.2.1 dX12_arePanesTold_12 (by decide) ?_
  refine lv_istore_n (lv' := [(3, .int (0 : Int32)), (2, .int y0), (0, .ref (gB E + 399)), (1, .int x1)]) C.1 C.2.1 dX12_arePanesTold_13 rfl hl (by decide) rfl (fun ls hl => ?_)
  refine lv_iconst (v := 0) C.1 C.2.1 dX12_arePanesTold_14 (by decide) ?_
  refine lv_istore (lv' := [(4, .int (0 : Int32)), (3, .int (0 : Int32)), (2, .int y0), (0, .ref (gB E + 399)), (1, .int x1)]) C.1 C.2.1 dX12_arePanesTold_15 hl (by decide) rfl (fun ls hl => ?_)
  exact w_X12_arePanesTold_17 C G FU X (lv_sub hl [3, 4, 2, 1, 0] rfl) h

set_option maxRecDepth 20000 in
theorem w_X12_arePanesTold {r : Int32} {σ : Mem} {x1 : Int32} {ls : Array Slot} {H : Heap} {locs : List Loc} (C : Cx p s m args meth c cX12_arePanesTold (some .boolean) 5 RX12) (G : Gf E s) (X : Hx E σ s H locs) (hl : lv_has ls 5 [(0, .ref (gB E + 399)), (1, .int x1)]) (h : X12_arePanesTold σ x1 = some r) : W p l e (RM 2) s m args below meth c H locs 0 0 (QI E below args s r σ) (F0 m 0 ls []) := by
  rw [X12_arePanesTold] at h
  refine lv_iload_n C.1 C.2.1 dX12_arePanesTold_0 rfl (lv_at hl 1 rfl) ?_
  refine lv_bipush (v := 8) C.1 C.2.1 dX12_arePanesTold_1 (by decide) ?_
  refine lv_icmp_gt (tgt := 10) C.1 C.2.1 dX12_arePanesTold_3 (by decide) (fun c3 => ?_) (fun c3 => ?_)
  · replace h := ipos c3 h
    refine lv_iconst (v := 0) C.1 C.2.1 dX12_arePanesTold_10 (by decide) ?_
    exact w_X12_arePanesTold_11 C G X (lv_sub hl [0, 1] rfl) h
  · replace h := ineg c3 h
    refine lv_iconst (v := 1) C.1 C.2.1 dX12_arePanesTold_6 (by decide) ?_
    refine lv_goto (tgt := 11) C.1 C.2.1 dX12_arePanesTold_7 (by decide) ?_
    exact w_X12_arePanesTold_11 C G X (lv_sub hl [0, 1] rfl) h

theorem c_X12_arePanesTold (l : Launch) (E : GE) {σ : Mem} {x1 : Int32} {r : Int32} (h : X12_arePanesTold σ x1 = some r) : CtI l E yX12_arePanesTold cX12_arePanesTold 5 .boolean 2 [.ref (gB E + 399), .int x1] σ r σ := by
  refine Met.ofW (cc := cX12_arePanesTold) (maxL := 5) (ret := (some .boolean)) (by decide) rfl ?_
  intro p e s m args below meth c s₁ B hml hv
  obtain ⟨rfl, G, X⟩ := start hv
  have C := cxof B hml
  have hl := lv_entry [.ref (gB E + 399), .int x1] (n := 5) (Nat.le_of_ble_eq_true rfl)
  rw [lg_entry_eq]
  generalize (lg_sl [.ref (gB E + 399), .int x1] ++ List.replicate (5 - (lg_sl [.ref (gB E + 399), .int x1]).length) Slot.unset).toArray = ls at hl ⊢
  exact w_X12_arePanesTold C G X hl h

set_option maxRecDepth 20000 in
theorem w_X12_goesBy_45 {r : Int32} {σ : Mem} {ls : Array Slot} {H : Heap} {locs : List Loc} (C : Cx p s m args meth c cX12_goesBy (some .int) 6 RX12) (G : Gf E s) (X : Hx E σ s H locs) (hl : lv_has ls 6 []) (h : X12_goesBy_45 σ = some r) : W p l e (RM 1) s m args below meth c H locs 0 0 (QI E below args s r σ) (F0 m 45 ls []) := by
  rw [X12_goesBy_45] at h
  refine lv_ldcw C.1 C.2.1 C.hown (C.ts _ k_1987) dX12_goesBy_45 ?_
  refine lv_goto (tgt := 56) C.1 C.2.1 dX12_goesBy_48 (by decide) ?_
  rw [← Option.some.inj h]
  exact rtI C X dX12_goesBy_56

set_option maxRecDepth 20000 in
theorem w_X12_goesBy {r : Int32} {σ : Mem} {x1 : Int32} {x2 : Int32} {x3 : Int32} {ls : Array Slot} {H : Heap} {locs : List Loc} (C : Cx p s m args meth c cX12_goesBy (some .int) 6 RX12) (G : Gf E s) (X : Hx E σ s H locs) (hl : lv_has ls 6 [(0, .ref (gB E + 399)), (1, .int x1), (2, .int x2), (3, .int x3)]) (h : X12_goesBy σ x1 x2 x3 = some r) : W p l e (RM 1) s m args below meth c H locs 0 0 (QI E below args s r σ) (F0 m 0 ls []) := by
  rw [X12_goesBy] at h
  refine lv_aload_n C.1 C.2.1 dX12_goesBy_0 rfl (lv_at hl 0 rfl) ?_
  refine gfX12 C G X (k := 399) kd_399 18 (v := .ref (gB E + 406)) rfl rfl (by decide) k_1669 rfl dX12_goesBy_1 ?_
  refine lv_bipush (v := 9) C.1 C.2.1 dX12_goesBy_4 (by decide) ?_
  refine lv_iload_n C.1 C.2.1 dX12_goesBy_6 rfl (lv_at hl 1 rfl) ?_
  refine lv_imul C.1 C.2.1 dX12_goesBy_7 ?_
  refine lv_aload_n C.1 C.2.1 dX12_goesBy_8 rfl (lv_at hl 0 rfl) ?_
  refine gfX12 C G X (k := 399) kd_399 7 (v := .ref (gB E + 404)) rfl rfl (by decide) k_1658 rfl dX12_goesBy_9 ?_
  refine lv_iload_n C.1 C.2.1 dX12_goesBy_12 rfl (lv_at hl 2 rfl) ?_
  obtain ⟨r13, e13, h⟩ := bnd h
  refine ald C G X (k := 404) kd_404 (ag_s e13).1 dX12_goesBy_13 ?_
  rw [(ag_s e13).2]
  refine lv_iadd C.1 C.2.1 dX12_goesBy_14 ?_
  obtain ⟨r15, e15, h⟩ := bnd h
  refine ald C G X (k := 406) kd_406 (ag_s e15).1 dX12_goesBy_15 ?_
  rw [(ag_s e15).2]
  refine lv_istore (lv' := [(4, .int r15), (0, .ref (gB E + 399)), (1, .int x1), (2, .int x2), (3, .int x3)]) C.1 C.2.1 dX12_goesBy_16 hl (by decide) rfl (fun ls hl => ?_)
  refine lv_aload_n C.1 C.2.1 dX12_goesBy_18 rfl (lv_at hl 1 rfl) ?_
  refine gfX12 C G X (k := 399) kd_399 19 (v := .ref (gB E + 407)) rfl rfl (by decide) k_1670 rfl dX12_goesBy_19 ?_
  refine lv_bipush (v := 9) C.1 C.2.1 dX12_goesBy_22 (by decide) ?_
  refine lv_iload_n C.1 C.2.1 dX12_goesBy_24 rfl (lv_at hl 4 rfl) ?_
  refine lv_imul C.1 C.2.1 dX12_goesBy_25 ?_
  refine lv_iload_n C.1 C.2.1 dX12_goesBy_26 rfl (lv_at hl 3 rfl) ?_
  refine lv_iadd C.1 C.2.1 dX12_goesBy_27 ?_
  obtain ⟨r28, e28, h⟩ := bnd h
  refine ald C G X (k := 407) kd_407 (ag_s e28).1 dX12_goesBy_28 ?_
  rw [(ag_s e28).2]
  refine lv_istore (lv' := [(5, .int r28), (4, .int r15), (0, .ref (gB E + 399)), (1, .int x1), (2, .int x2), (3, .int x3)]) C.1 C.2.1 dX12_goesBy_29 hl (by decide) rfl (fun ls hl => ?_)
  refine lv_iload C.1 C.2.1 dX12_goesBy_31 (lv_at hl 1 rfl) ?_
  refine lv_iconst (v := -1) C.1 C.2.1 dX12_goesBy_33 (by decide) ?_
  refine lv_icmp_eq (tgt := 45) C.1 C.2.1 dX12_goesBy_34 (by decide) (fun c34 => ?_) (fun c34 => ?_)
  · replace h := ipos c34 h
    exact w_X12_goesBy_45 C G X (lv_sub hl [] rfl) h
  · replace h := ineg c34 h
    refine lv_iload C.1 C.2.1 dX12_goesBy_37 (lv_at hl 0 rfl) ?_
    refine lv_ldcw C.1 C.2.1 C.hown (C.ts _ k_1987) dX12_goesBy_39 ?_
    refine lv_icmp_ne (tgt := 51) C.1 C.2.1 dX12_goesBy_42 (by decide) (fun c42 => ?_) (fun c42 => ?_)
    · replace h := ineg c42 h
      refine lv_iload C.1 C.2.1 dX12_goesBy_51 (lv_at hl 1 rfl) ?_
      refine lv_iload C.1 C.2.1 dX12_goesBy_53 (lv_at hl 0 rfl) ?_
      refine lv_iadd C.1 C.2.1 dX12_goesBy_55 ?_
      rw [← Option.some.inj h]
      exact rtI C X dX12_goesBy_56
    · replace h := ipos c42 h
      exact w_X12_goesBy_45 C G X (lv_sub hl [] rfl) h

theorem c_X12_goesBy (l : Launch) (E : GE) {σ : Mem} {x1 : Int32} {x2 : Int32} {x3 : Int32} {r : Int32} (h : X12_goesBy σ x1 x2 x3 = some r) : CtI l E yX12_goesBy cX12_goesBy 6 .int 1 [.ref (gB E + 399), .int x1, .int x2, .int x3] σ r σ := by
  refine Met.ofW (cc := cX12_goesBy) (maxL := 6) (ret := (some .int)) (by decide) rfl ?_
  intro p e s m args below meth c s₁ B hml hv
  obtain ⟨rfl, G, X⟩ := start hv
  have C := cxof B hml
  have hl := lv_entry [.ref (gB E + 399), .int x1, .int x2, .int x3] (n := 6) (Nat.le_of_ble_eq_true rfl)
  rw [lg_entry_eq]
  generalize (lg_sl [.ref (gB E + 399), .int x1, .int x2, .int x3] ++ List.replicate (6 - (lg_sl [.ref (gB E + 399), .int x1, .int x2, .int x3]).length) Slot.unset).toArray = ls at hl ⊢
  exact w_X12_goesBy C G X hl h

set_option maxRecDepth 20000 in
theorem w_X12_roadsOf_38 {r : Mem} {rc6 : Int32 → Int32 → Mem → Option Mem} {rc12 : Int32 → Int32 → Int32 → Mem → Option Mem} (C : Cx p s m args meth c cX12_roadsOf none 6 RX12) (G : Gf E s) (hr6 : ∀ {x1 : Int32} {x2 : Int32} {σ : Mem} {ls : Array Slot} {H : Heap} {locs : List Loc}, Hx E σ s H locs → lv_has ls 6 [(0, .ref (gB E + 399)), (1, .int x1), (2, .int x2)] → rc6 x1 x2 σ = some r → W p l e (RM 2) s m args below meth c H locs 0 0 (QV E below args s r) (F0 m 6 ls [])) (hr12 : ∀ {x1 : Int32} {x2 : Int32} {x3 : Int32} {σ : Mem} {ls : Array Slot} {H : Heap} {locs : List Loc}, Hx E σ s H locs → lv_has ls 6 [(0, .ref (gB E + 399)), (1, .int x1), (2, .int x2), (3, .int x3)] → rc12 x1 x2 x3 σ = some r → W p l e (RM 2) s m args below meth c H locs 0 0 (QV E below args s r) (F0 m 12 ls [])) : ∀ (f : Nat) {x1 : Int32} {x2 : Int32} {x3 : Int32} {x4 : Int32} {x5 : Int32} {σ : Mem} {ls : Array Slot} {H : Heap} {locs : List Loc}, Hx E σ s H locs → lv_has ls 6 [(0, .ref (gB E + 399)), (1, .int x1), (2, .int x2), (3, .int x3), (4, .int x4), (5, .int x5)] → X12_roadsOf_38 rc6 rc12 f x1 x2 x3 x4 x5 σ = some r → W p l e (RM 2) s m args below meth c H locs 0 0 (QV E below args s r) (F0 m 38 ls []) := by
  intro f
  induction f with
  | zero =>
    intro x1 x2 x3 x4 x5 σ ls H locs X hl h
    rw [X12_roadsOf_38] at h
    cases h
  | succ f ih =>
    intro x1 x2 x3 x4 x5 σ ls H locs X hl h
    rw [X12_roadsOf_38] at h
    refine lv_iload C.1 C.2.1 dX12_roadsOf_38 (lv_at hl 5 rfl) ?_
    refine lv_iload_n C.1 C.2.1 dX12_roadsOf_40 rfl (lv_at hl 1 rfl) ?_
    refine lv_icmp_ge (tgt := 84) C.1 C.2.1 dX12_roadsOf_41 (by decide) (fun c41 => ?_) (fun c41 => ?_)
    · replace h := ipos c41 h
      refine lv_aload_n C.1 C.2.1 dX12_roadsOf_84 rfl (lv_at hl 0 rfl) ?_
      refine gfX12 C G X (k := 399) kd_399 19 (v := .ref (gB E + 407)) rfl rfl (by decide) k_1670 rfl dX12_roadsOf_85 ?_
      refine lv_bipush (v := 9) C.1 C.2.1 dX12_roadsOf_88 (by decide) ?_
      refine lv_iload_n C.1 C.2.1 dX12_roadsOf_90 rfl (lv_at hl 2 rfl) ?_
      refine lv_imul C.1 C.2.1 dX12_roadsOf_91 ?_
      refine lv_iload_n C.1 C.2.1 dX12_roadsOf_92 rfl (lv_at hl 3 rfl) ?_
      refine lv_iadd C.1 C.2.1 dX12_roadsOf_93 ?_
      refine lv_iload C.1 C.2.1 dX12_roadsOf_94 (lv_at hl 4 rfl) ?_
      obtain ⟨σ96, e96, h⟩ := bnd h
      refine ast C G X (k := 407) kd_407 (au_s e96).1 dX12_roadsOf_96 (fun H locs X => ?_)
      rw [(au_s e96).2] at X
      refine lv_iinc (v := (x3 + 1)) (lv' := [(3, .int (x3 + 1)), (0, .ref (gB E + 399)), (1, .int x1), (2, .int x2), (4, .int x4), (5, .int x5)]) C.1 C.2.1 dX12_roadsOf_97 hl (k := 3) rfl rfl (by decide) rfl (fun ls hl => ?_)
      refine lv_goto (tgt := 12) C.1 C.2.1 dX12_roadsOf_100 (by decide) ?_
      exact hr12 X (lv_sub hl [1, 2, 3, 0] rfl) h
    · replace h := ineg c41 h
      refine lv_iload_n C.1 C.2.1 dX12_roadsOf_44 rfl (lv_at hl 2 rfl) ?_
      refine lv_iload C.1 C.2.1 dX12_roadsOf_45 (lv_at hl 5 rfl) ?_
      obtain ⟨r47, e47, h⟩ := bnd h
      refine afI X (runS C G X q_X12_isOf k_1943 k_1942 (c_X12_isOf l E e47) rfl hl.1 rfl (Nat.le_of_ble_eq_true rfl) ⟨Nat.le_of_ble_eq_true rfl, Nat.le_of_ble_eq_true rfl⟩ ⟨Nat.le_of_ble_eq_true rfl, Nat.le_of_ble_eq_true rfl⟩ dX12_roadsOf_47) (fun H locs X => ?_)
      refine lv_if_ne (tgt := 78) C.1 C.2.1 dX12_roadsOf_50 (by decide) (fun c50 => ?_) (fun c50 => ?_)
      · replace h := ineg c50 h
        refine lv_iinc (v := (x5 + 1)) (lv' := [(5, .int (x5 + 1)), (0, .ref (gB E + 399)), (1, .int x1), (2, .int x2), (3, .int x3), (4, .int x4)]) C.1 C.2.1 dX12_roadsOf_78 hl (k := 5) rfl rfl (by decide) rfl (fun ls hl => ?_)
        refine lv_goto (tgt := 38) C.1 C.2.1 dX12_roadsOf_81 (by decide) ?_
        exact ih X (lv_sub hl [1, 2, 3, 4, 5, 0] rfl) h
      · replace h := ipos c50 h
        refine lv_iload C.1 C.2.1 dX12_roadsOf_53 (lv_at hl 4 rfl) ?_
        refine lv_aload_n C.1 C.2.1 dX12_roadsOf_55 rfl (lv_at hl 0 rfl) ?_
        refine lv_aload_n C.1 C.2.1 dX12_roadsOf_56 rfl (lv_at hl 0 rfl) ?_
        refine gfX12 C G X (k := 399) kd_399 7 (v := .ref (gB E + 404)) rfl rfl (by decide) k_1658 rfl dX12_roadsOf_57 ?_
        refine lv_iload_n C.1 C.2.1 dX12_roadsOf_60 rfl (lv_at hl 3 rfl) ?_
        obtain ⟨r61, e61, h⟩ := bnd h
        refine ald C G X (k := 404) kd_404 (ag_s e61).1 dX12_roadsOf_61 ?_
        rw [(ag_s e61).2]
        refine lv_iload C.1 C.2.1 dX12_roadsOf_62 (lv_at hl 5 rfl) ?_
        refine lv_iload_n C.1 C.2.1 dX12_roadsOf_64 rfl (lv_at hl 2 rfl) ?_
        refine lv_iconst (v := 1) C.1 C.2.1 dX12_roadsOf_65 (by decide) ?_
        refine lv_iload C.1 C.2.1 dX12_roadsOf_66 (lv_at hl 5 rfl) ?_
        refine lv_ishl C.1 C.2.1 dX12_roadsOf_68 ?_
        refine lv_ior C.1 C.2.1 dX12_roadsOf_69 ?_
        obtain ⟨r70, e70, h⟩ := bnd h
        refine afI X (runV C G X q_X12_goesBy k_2098 kp_85 k_2096 (rcX12 G X kd_399) (c_X12_goesBy l E e70) rfl hl.1 rfl (Nat.le_of_ble_eq_true rfl) ⟨Nat.le_of_ble_eq_true rfl, Nat.le_of_ble_eq_true rfl⟩ ⟨Nat.le_of_ble_eq_true rfl, Nat.le_of_ble_eq_true rfl⟩ dX12_roadsOf_70) (fun H locs X => ?_)
        obtain ⟨r73, e73, h⟩ := bnd h
        refine afI X (runS C G X q_X12_lesser k_1958 k_1957 (c_X12_lesser l E e73) rfl hl.1 rfl (Nat.le_of_ble_eq_true rfl) ⟨Nat.le_of_ble_eq_true rfl, Nat.le_of_ble_eq_true rfl⟩ ⟨Nat.le_of_ble_eq_true rfl, Nat.le_of_ble_eq_true rfl⟩ dX12_roadsOf_73) (fun H locs X => ?_)
        refine lv_istore (lv' := [(4, .int r73), (0, .ref (gB E + 399)), (1, .int x1), (2, .int x2), (3, .int x3), (5, .int x5)]) C.1 C.2.1 dX12_roadsOf_76 hl (by decide) rfl (fun ls hl => ?_)
        refine lv_iinc (v := (x5 + 1)) (lv' := [(5, .int (x5 + 1)), (4, .int r73), (0, .ref (gB E + 399)), (1, .int x1), (2, .int x2), (3, .int x3)]) C.1 C.2.1 dX12_roadsOf_78 hl (k := 5) rfl rfl (by decide) rfl (fun ls hl => ?_)
        refine lv_goto (tgt := 38) C.1 C.2.1 dX12_roadsOf_81 (by decide) ?_
        exact ih X (lv_sub hl [2, 3, 4, 5, 1, 0] rfl) h

set_option maxRecDepth 20000 in
theorem w_X12_roadsOf_33 {r : Mem} {σ : Mem} {rc6 : Int32 → Int32 → Mem → Option Mem} {rc12 : Int32 → Int32 → Int32 → Mem → Option Mem} {x1 : Int32} {x2 : Int32} {x3 : Int32} {y0 : Int32} {ls : Array Slot} {H : Heap} {locs : List Loc} (C : Cx p s m args meth c cX12_roadsOf none 6 RX12) (G : Gf E s) (hr6 : ∀ {x1 : Int32} {x2 : Int32} {σ : Mem} {ls : Array Slot} {H : Heap} {locs : List Loc}, Hx E σ s H locs → lv_has ls 6 [(0, .ref (gB E + 399)), (1, .int x1), (2, .int x2)] → rc6 x1 x2 σ = some r → W p l e (RM 2) s m args below meth c H locs 0 0 (QV E below args s r) (F0 m 6 ls [])) (hr12 : ∀ {x1 : Int32} {x2 : Int32} {x3 : Int32} {σ : Mem} {ls : Array Slot} {H : Heap} {locs : List Loc}, Hx E σ s H locs → lv_has ls 6 [(0, .ref (gB E + 399)), (1, .int x1), (2, .int x2), (3, .int x3)] → rc12 x1 x2 x3 σ = some r → W p l e (RM 2) s m args below meth c H locs 0 0 (QV E below args s r) (F0 m 12 ls [])) (X : Hx E σ s H locs) (hl : lv_has ls 6 [(0, .ref (gB E + 399)), (1, .int x1), (2, .int x2), (3, .int x3)]) (h : X12_roadsOf_33 rc6 rc12 x1 x2 x3 y0 σ = some r) : W p l e (RM 2) s m args below meth c H locs 0 0 (QV E below args s r) (F0 m 33 ls [.int y0]) := by
  rw [X12_roadsOf_33] at h
  refine lv_istore (lv' := [(4, .int y0), (0, .ref (gB E + 399)), (1, .int x1), (2, .int x2), (3, .int x3)]) C.1 C.2.1 dX12_roadsOf_33 hl (by decide) rfl (fun ls hl => ?_)
  refine lv_iconst (v := 0) C.1 C.2.1 dX12_roadsOf_35 (by decide) ?_
  refine lv_istore (lv' := [(5, .int (0 : Int32)), (4, .int y0), (0, .ref (gB E + 399)), (1, .int x1), (2, .int x2), (3, .int x3)]) C.1 C.2.1 dX12_roadsOf_36 hl (by decide) rfl (fun ls hl => ?_)
  exact w_X12_roadsOf_38 C G hr6 hr12 FU X (lv_sub hl [2, 3, 4, 5, 1, 0] rfl) h

set_option maxRecDepth 20000 in
theorem w_X12_roadsOf_12 {r : Mem} {rc6 : Int32 → Int32 → Mem → Option Mem} (C : Cx p s m args meth c cX12_roadsOf none 6 RX12) (G : Gf E s) (hr6 : ∀ {x1 : Int32} {x2 : Int32} {σ : Mem} {ls : Array Slot} {H : Heap} {locs : List Loc}, Hx E σ s H locs → lv_has ls 6 [(0, .ref (gB E + 399)), (1, .int x1), (2, .int x2)] → rc6 x1 x2 σ = some r → W p l e (RM 2) s m args below meth c H locs 0 0 (QV E below args s r) (F0 m 6 ls [])) : ∀ (f : Nat) {x1 : Int32} {x2 : Int32} {x3 : Int32} {σ : Mem} {ls : Array Slot} {H : Heap} {locs : List Loc}, Hx E σ s H locs → lv_has ls 6 [(0, .ref (gB E + 399)), (1, .int x1), (2, .int x2), (3, .int x3)] → X12_roadsOf_12 rc6 f x1 x2 x3 σ = some r → W p l e (RM 2) s m args below meth c H locs 0 0 (QV E below args s r) (F0 m 12 ls []) := by
  intro f
  induction f with
  | zero =>
    intro x1 x2 x3 σ ls H locs X hl h
    rw [X12_roadsOf_12] at h
    cases h
  | succ f ih =>
    intro x1 x2 x3 σ ls H locs X hl h
    rw [X12_roadsOf_12] at h
    refine lv_iload_n C.1 C.2.1 dX12_roadsOf_12 rfl (lv_at hl 3 rfl) ?_
    refine lv_iload_n C.1 C.2.1 dX12_roadsOf_13 rfl (lv_at hl 1 rfl) ?_
    refine lv_icmp_ge (tgt := 103) C.1 C.2.1 dX12_roadsOf_14 (by decide) (fun c14 => ?_) (fun c14 => ?_)
    · replace h := ipos c14 h
      refine lv_iinc (v := (x2 + (-1))) (lv' := [(2, .int (x2 + (-1))), (0, .ref (gB E + 399)), (1, .int x1), (3, .int x3)]) C.1 C.2.1 dX12_roadsOf_103 hl (k := 2) rfl rfl (by decide) rfl (fun ls hl => ?_)
      refine lv_goto (tgt := 6) C.1 C.2.1 dX12_roadsOf_106 (by decide) ?_
      exact hr6 X (lv_sub hl [1, 2, 0] rfl) h
    · replace h := ineg c14 h
      refine lv_iload_n C.1 C.2.1 dX12_roadsOf_17 rfl (lv_at hl 2 rfl) ?_
      refine lv_iconst (v := 1) C.1 C.2.1 dX12_roadsOf_18 (by decide) ?_
      refine lv_iload_n C.1 C.2.1 dX12_roadsOf_19 rfl (lv_at hl 1 rfl) ?_
      refine lv_ishl C.1 C.2.1 dX12_roadsOf_20 ?_
      refine lv_iconst (v := 1) C.1 C.2.1 dX12_roadsOf_21 (by decide) ?_
      refine lv_isub C.1 C.2.1 dX12_roadsOf_22 ?_
      refine lv_icmp_ne (tgt := 30) C.1 C.2.1 dX12_roadsOf_23 (by decide) (fun c23 => ?_) (fun c23 => ?_)
      · replace h := ineg c23 h
        refine lv_ldcw C.1 C.2.1 C.hown (C.ts _ k_1987) dX12_roadsOf_30 ?_
        exact w_X12_roadsOf_33 C G hr6 ih X (lv_sub hl [0, 1, 2, 3] rfl) h
      · replace h := ipos c23 h
        refine lv_iconst (v := 0) C.1 C.2.1 dX12_roadsOf_26 (by decide) ?_
        refine lv_goto (tgt := 33) C.1 C.2.1 dX12_roadsOf_27 (by decide) ?_
        exact w_X12_roadsOf_33 C G hr6 ih X (lv_sub hl [0, 1, 2, 3] rfl) h

set_option maxRecDepth 20000 in
theorem w_X12_roadsOf_6 {r : Mem} (C : Cx p s m args meth c cX12_roadsOf none 6 RX12) (G : Gf E s) : ∀ (f : Nat) {x1 : Int32} {x2 : Int32} {σ : Mem} {ls : Array Slot} {H : Heap} {locs : List Loc}, Hx E σ s H locs → lv_has ls 6 [(0, .ref (gB E + 399)), (1, .int x1), (2, .int x2)] → X12_roadsOf_6 f x1 x2 σ = some r → W p l e (RM 2) s m args below meth c H locs 0 0 (QV E below args s r) (F0 m 6 ls []) := by
  intro f
  induction f with
  | zero =>
    intro x1 x2 σ ls H locs X hl h
    rw [X12_roadsOf_6] at h
    cases h
  | succ f ih =>
    intro x1 x2 σ ls H locs X hl h
    rw [X12_roadsOf_6] at h
    refine lv_iload_n C.1 C.2.1 dX12_roadsOf_6 rfl (lv_at hl 2 rfl) ?_
    refine lv_if_le (tgt := 109) C.1 C.2.1 dX12_roadsOf_7 (by decide) (fun c7 => ?_) (fun c7 => ?_)
    · replace h := ipos c7 h
      rw [← Option.some.inj h]
      exact rtV C X dX12_roadsOf_109
    · replace h := ineg c7 h
      refine lv_iconst (v := 0) C.1 C.2.1 dX12_roadsOf_10 (by decide) ?_
      refine lv_istore_n (lv' := [(3, .int (0 : Int32)), (0, .ref (gB E + 399)), (1, .int x1), (2, .int x2)]) C.1 C.2.1 dX12_roadsOf_11 rfl hl (by decide) rfl (fun ls hl => ?_)
      exact w_X12_roadsOf_12 C G ih FU X (lv_sub hl [1, 2, 3, 0] rfl) h

set_option maxRecDepth 20000 in
theorem w_X12_roadsOf {r : Mem} {σ : Mem} {x1 : Int32} {ls : Array Slot} {H : Heap} {locs : List Loc} (C : Cx p s m args meth c cX12_roadsOf none 6 RX12) (G : Gf E s) (X : Hx E σ s H locs) (hl : lv_has ls 6 [(0, .ref (gB E + 399)), (1, .int x1)]) (h : X12_roadsOf x1 σ = some r) : W p l e (RM 2) s m args below meth c H locs 0 0 (QV E below args s r) (F0 m 0 ls []) := by
  rw [X12_roadsOf] at h
  refine lv_iconst (v := 1) C.1 C.2.1 dX12_roadsOf_0 (by decide) ?_
  refine lv_iload_n C.1 C.2.1 dX12_roadsOf_1 rfl (lv_at hl 1 rfl) ?_
  refine lv_ishl C.1 C.2.1 dX12_roadsOf_2 ?_
  refine lv_iconst (v := 1) C.1 C.2.1 dX12_roadsOf_3 (by decide) ?_
  refine lv_isub C.1 C.2.1 dX12_roadsOf_4 ?_
  refine lv_istore_n (lv' := [(2, .int (((1 : Int32) <<< (x1 &&& 31)) - (1 : Int32))), (0, .ref (gB E + 399)), (1, .int x1)]) C.1 C.2.1 dX12_roadsOf_5 rfl hl (by decide) rfl (fun ls hl => ?_)
  exact w_X12_roadsOf_6 C G FU X (lv_sub hl [1, 2, 0] rfl) h

theorem c_X12_roadsOf (l : Launch) (E : GE) {σ : Mem} {x1 : Int32} {r : Mem} (h : X12_roadsOf x1 σ = some r) : CtV l E yX12_roadsOf cX12_roadsOf 6 2 [.ref (gB E + 399), .int x1] σ r := by
  refine Met.ofW (cc := cX12_roadsOf) (maxL := 6) (ret := none) (by decide) rfl ?_
  intro p e s m args below meth c s₁ B hml hv
  obtain ⟨rfl, G, X⟩ := start hv
  have C := cxof B hml
  have hl := lv_entry [.ref (gB E + 399), .int x1] (n := 6) (Nat.le_of_ble_eq_true rfl)
  rw [lg_entry_eq]
  generalize (lg_sl [.ref (gB E + 399), .int x1] ++ List.replicate (6 - (lg_sl [.ref (gB E + 399), .int x1]).length) Slot.unset).toArray = ls at hl ⊢
  exact w_X12_roadsOf C G X hl h

set_option maxRecDepth 20000 in
theorem w_X12_round_79 {r : (Int32 × Mem)} {rc65 : Int32 → Int32 → Int32 → Int32 → Mem → Option (Int32 × Mem)} (C : Cx p s m args meth c cX12_round (some .int) 8 RX12) (G : Gf E s) (hr65 : ∀ {x1 : Int32} {x2 : Int32} {x3 : Int32} {x4 : Int32} {σ : Mem} {ls : Array Slot} {H : Heap} {locs : List Loc}, Hx E σ s H locs → lv_has ls 8 [(0, .ref (gB E + 399)), (1, .int x1), (2, .int x2), (3, .int x3), (4, .int x4)] → rc65 x1 x2 x3 x4 σ = some r → W p l e (RM 4) s m args below meth c H locs 0 0 (QI E below args s r.1 r.2) (F0 m 65 ls [])) : ∀ (f : Nat) {x1 : Int32} {x2 : Int32} {x3 : Int32} {x4 : Int32} {x5 : Int32} {σ : Mem} {ls : Array Slot} {H : Heap} {locs : List Loc}, Hx E σ s H locs → lv_has ls 8 [(0, .ref (gB E + 399)), (1, .int x1), (2, .int x2), (3, .int x3), (4, .int x4), (5, .int x5)] → X12_round_79 rc65 f x1 x2 x3 x4 x5 σ = some r → W p l e (RM 4) s m args below meth c H locs 0 0 (QI E below args s r.1 r.2) (F0 m 79 ls []) := by
  intro f
  induction f with
  | zero =>
    intro x1 x2 x3 x4 x5 σ ls H locs X hl h
    rw [X12_round_79] at h
    cases h
  | succ f ih =>
    intro x1 x2 x3 x4 x5 σ ls H locs X hl h
    rw [X12_round_79] at h
    refine lv_iload C.1 C.2.1 dX12_round_79 (lv_at hl 5 rfl) ?_
    refine lv_aload_n C.1 C.2.1 dX12_round_81 rfl (lv_at hl 0 rfl) ?_
    refine gfX12 C G X (k := 399) kd_399 1 (v := .ref (gB E + 400)) rfl rfl (by decide) k_1652 rfl dX12_round_82 ?_
    refine lv_iconst (v := 3) C.1 C.2.1 dX12_round_85 (by decide) ?_
    obtain ⟨r86, e86, h⟩ := bnd h
    refine ald C G X (k := 400) kd_400 (ag_s e86).1 dX12_round_86 ?_
    rw [(ag_s e86).2]
    refine lv_icmp_ge (tgt := 117) C.1 C.2.1 dX12_round_87 (by decide) (fun c87 => ?_) (fun c87 => ?_)
    · replace h := ipos c87 h
      refine lv_iinc (v := (x4 + 1)) (lv' := [(4, .int (x4 + 1)), (0, .ref (gB E + 399)), (1, .int x1), (2, .int x2), (3, .int x3), (5, .int x5)]) C.1 C.2.1 dX12_round_117 hl (k := 4) rfl rfl (by decide) rfl (fun ls hl => ?_)
      refine lv_goto (tgt := 65) C.1 C.2.1 dX12_round_120 (by decide) ?_
      exact hr65 X (lv_sub hl [1, 2, 3, 4, 0] rfl) h
    · replace h := ineg c87 h
      refine lv_aload_n C.1 C.2.1 dX12_round_90 rfl (lv_at hl 0 rfl) ?_
      refine gfX12 C G X (k := 399) kd_399 18 (v := .ref (gB E + 406)) rfl rfl (by decide) k_1669 rfl dX12_round_91 ?_
      refine lv_bipush (v := 9) C.1 C.2.1 dX12_round_94 (by decide) ?_
      refine lv_iload C.1 C.2.1 dX12_round_96 (lv_at hl 4 rfl) ?_
      refine lv_imul C.1 C.2.1 dX12_round_98 ?_
      refine lv_iload C.1 C.2.1 dX12_round_99 (lv_at hl 5 rfl) ?_
      refine lv_iadd C.1 C.2.1 dX12_round_101 ?_
      refine lv_aload_n C.1 C.2.1 dX12_round_102 rfl (lv_at hl 0 rfl) ?_
      refine lv_iload C.1 C.2.1 dX12_round_103 (lv_at hl 4 rfl) ?_
      refine lv_iload C.1 C.2.1 dX12_round_105 (lv_at hl 5 rfl) ?_
      obtain ⟨r107, e107, h⟩ := bnd h
      refine afI X (runV C G X q_X12_farOf k_1940 kp_66 k_1938 (rcX12 G X kd_399) (c_X12_farOf l E e107) rfl hl.1 rfl (Nat.le_of_ble_eq_true rfl) ⟨Nat.le_of_ble_eq_true rfl, Nat.le_of_ble_eq_true rfl⟩ ⟨Nat.le_of_ble_eq_true rfl, Nat.le_of_ble_eq_true rfl⟩ dX12_round_107) (fun H locs X => ?_)
      obtain ⟨σ110, e110, h⟩ := bnd h
      refine ast C G X (k := 406) kd_406 (au_s e110).1 dX12_round_110 (fun H locs X => ?_)
      rw [(au_s e110).2] at X
      refine lv_iinc (v := (x5 + 1)) (lv' := [(5, .int (x5 + 1)), (0, .ref (gB E + 399)), (1, .int x1), (2, .int x2), (3, .int x3), (4, .int x4)]) C.1 C.2.1 dX12_round_111 hl (k := 5) rfl rfl (by decide) rfl (fun ls hl => ?_)
      refine lv_goto (tgt := 79) C.1 C.2.1 dX12_round_114 (by decide) ?_
      exact ih X (lv_sub hl [1, 2, 3, 4, 5, 0] rfl) h

set_option maxRecDepth 20000 in
theorem w_X12_round_204 {r : (Int32 × Mem)} {σ : Mem} {rc140 : Int32 → Int32 → Int32 → Int32 → Int32 → Int32 → Mem → Option (Int32 × Mem)} {x1 : Int32} {x2 : Int32} {x3 : Int32} {x4 : Int32} {x5 : Int32} {x6 : Int32} {x7 : Int32} {ls : Array Slot} {H : Heap} {locs : List Loc} (C : Cx p s m args meth c cX12_round (some .int) 8 RX12) (G : Gf E s) (hr140 : ∀ {x1 : Int32} {x2 : Int32} {x3 : Int32} {x4 : Int32} {x5 : Int32} {x6 : Int32} {σ : Mem} {ls : Array Slot} {H : Heap} {locs : List Loc}, Hx E σ s H locs → lv_has ls 8 [(0, .ref (gB E + 399)), (1, .int x1), (2, .int x2), (3, .int x3), (4, .int x4), (5, .int x5), (6, .int x6)] → rc140 x1 x2 x3 x4 x5 x6 σ = some r → W p l e (RM 4) s m args below meth c H locs 0 0 (QI E below args s r.1 r.2) (F0 m 140 ls [])) (X : Hx E σ s H locs) (hl : lv_has ls 8 [(0, .ref (gB E + 399)), (1, .int x1), (2, .int x2), (3, .int x3), (4, .int x4), (5, .int x5), (6, .int x6), (7, .int x7)]) (h : X12_round_204 rc140 x1 x2 x3 x4 x5 x6 x7 σ = some r) : W p l e (RM 4) s m args below meth c H locs 0 0 (QI E below args s r.1 r.2) (F0 m 204 ls []) := by
  rw [X12_round_204] at h
  refine lv_iload C.1 C.2.1 dX12_round_204 (lv_at hl 4 rfl) ?_
  refine lv_iload C.1 C.2.1 dX12_round_206 (lv_at hl 7 rfl) ?_
  obtain ⟨r208, e208, h⟩ := bnd h
  refine afI X (runS C G X q_X12_lesser k_1958 k_1957 (c_X12_lesser l E e208) rfl hl.1 rfl (Nat.le_of_ble_eq_true rfl) ⟨Nat.le_of_ble_eq_true rfl, Nat.le_of_ble_eq_true rfl⟩ ⟨Nat.le_of_ble_eq_true rfl, Nat.le_of_ble_eq_true rfl⟩ dX12_round_208) (fun H locs X => ?_)
  refine lv_istore (lv' := [(4, .int r208), (0, .ref (gB E + 399)), (1, .int x1), (2, .int x2), (3, .int x3), (5, .int x5), (6, .int x6), (7, .int x7)]) C.1 C.2.1 dX12_round_211 hl (by decide) rfl (fun ls hl => ?_)
  refine lv_iinc (v := (x6 + 1)) (lv' := [(6, .int (x6 + 1)), (4, .int r208), (0, .ref (gB E + 399)), (1, .int x1), (2, .int x2), (3, .int x3), (5, .int x5), (7, .int x7)]) C.1 C.2.1 dX12_round_213 hl (k := 6) rfl rfl (by decide) rfl (fun ls hl => ?_)
  refine lv_goto (tgt := 140) C.1 C.2.1 dX12_round_216 (by decide) ?_
  exact hr140 X (lv_sub hl [2, 3, 4, 5, 1, 6, 0] rfl) h

set_option maxRecDepth 20000 in
theorem w_X12_round_175 {r : (Int32 × Mem)} {σ : Mem} {rc140 : Int32 → Int32 → Int32 → Int32 → Int32 → Int32 → Mem → Option (Int32 × Mem)} {x1 : Int32} {x2 : Int32} {x3 : Int32} {x4 : Int32} {x5 : Int32} {x6 : Int32} {x7 : Int32} {ls : Array Slot} {H : Heap} {locs : List Loc} (C : Cx p s m args meth c cX12_round (some .int) 8 RX12) (G : Gf E s) (hr140 : ∀ {x1 : Int32} {x2 : Int32} {x3 : Int32} {x4 : Int32} {x5 : Int32} {x6 : Int32} {σ : Mem} {ls : Array Slot} {H : Heap} {locs : List Loc}, Hx E σ s H locs → lv_has ls 8 [(0, .ref (gB E + 399)), (1, .int x1), (2, .int x2), (3, .int x3), (4, .int x4), (5, .int x5), (6, .int x6)] → rc140 x1 x2 x3 x4 x5 x6 σ = some r → W p l e (RM 4) s m args below meth c H locs 0 0 (QI E below args s r.1 r.2) (F0 m 140 ls [])) (X : Hx E σ s H locs) (hl : lv_has ls 8 [(0, .ref (gB E + 399)), (1, .int x1), (2, .int x2), (3, .int x3), (4, .int x4), (5, .int x5), (6, .int x6), (7, .int x7)]) (h : X12_round_175 rc140 x1 x2 x3 x4 x5 x6 x7 σ = some r) : W p l e (RM 4) s m args below meth c H locs 0 0 (QI E below args s r.1 r.2) (F0 m 175 ls []) := by
  rw [X12_round_175] at h
  refine lv_iload C.1 C.2.1 dX12_round_175 (lv_at hl 7 rfl) ?_
  refine lv_iload C.1 C.2.1 dX12_round_177 (lv_at hl 4 rfl) ?_
  refine lv_icmp_gt (tgt := 204) C.1 C.2.1 dX12_round_179 (by decide) (fun c179 => ?_) (fun c179 => ?_)
  · replace h := ipos c179 h
    exact w_X12_round_204 C G hr140 X (lv_sub hl [0, 1, 2, 3, 4, 5, 6, 7] rfl) h
  · replace h := ineg c179 h
    refine lv_iload C.1 C.2.1 dX12_round_182 (lv_at hl 7 rfl) ?_
    refine lv_ldcw C.1 C.2.1 C.hown (C.ts _ k_1987) dX12_round_184 ?_
    refine lv_icmp_ge (tgt := 204) C.1 C.2.1 dX12_round_187 (by decide) (fun c187 => ?_) (fun c187 => ?_)
    · replace h := ipos c187 h
      exact w_X12_round_204 C G hr140 X (lv_sub hl [0, 1, 2, 3, 4, 5, 6, 7] rfl) h
    · replace h := ineg c187 h
      refine lv_iload C.1 C.2.1 dX12_round_190 (lv_at hl 5 rfl) ?_
      refine lv_aload_n C.1 C.2.1 dX12_round_192 rfl (lv_at hl 0 rfl) ?_
      refine gfX12 C G X (k := 399) kd_399 7 (v := .ref (gB E + 404)) rfl rfl (by decide) k_1658 rfl dX12_round_193 ?_
      refine lv_iload C.1 C.2.1 dX12_round_196 (lv_at hl 6 rfl) ?_
      obtain ⟨r198, e198, h⟩ := bnd h
      refine ald C G X (k := 404) kd_404 (ag_s e198).1 dX12_round_198 ?_
      rw [(ag_s e198).2]
      obtain ⟨r199, e199, h⟩ := bnd h
      refine afI X (runS C G X q_X12_lesser k_1958 k_1957 (c_X12_lesser l E e199) rfl hl.1 rfl (Nat.le_of_ble_eq_true rfl) ⟨Nat.le_of_ble_eq_true rfl, Nat.le_of_ble_eq_true rfl⟩ ⟨Nat.le_of_ble_eq_true rfl, Nat.le_of_ble_eq_true rfl⟩ dX12_round_199) (fun H locs X => ?_)
      refine lv_istore (lv' := [(5, .int r199), (0, .ref (gB E + 399)), (1, .int x1), (2, .int x2), (3, .int x3), (4, .int x4), (6, .int x6), (7, .int x7)]) C.1 C.2.1 dX12_round_202 hl (by decide) rfl (fun ls hl => ?_)
      exact w_X12_round_204 C G hr140 X (lv_sub hl [1, 2, 3, 4, 5, 0, 6, 7] rfl) h

set_option maxRecDepth 20000 in
theorem w_X12_round_140 {r : (Int32 × Mem)} (C : Cx p s m args meth c cX12_round (some .int) 8 RX12) (G : Gf E s) : ∀ (f : Nat) {x1 : Int32} {x2 : Int32} {x3 : Int32} {x4 : Int32} {x5 : Int32} {x6 : Int32} {σ : Mem} {ls : Array Slot} {H : Heap} {locs : List Loc}, Hx E σ s H locs → lv_has ls 8 [(0, .ref (gB E + 399)), (1, .int x1), (2, .int x2), (3, .int x3), (4, .int x4), (5, .int x5), (6, .int x6)] → X12_round_140 f x1 x2 x3 x4 x5 x6 σ = some r → W p l e (RM 4) s m args below meth c H locs 0 0 (QI E below args s r.1 r.2) (F0 m 140 ls []) := by
  intro f
  induction f with
  | zero =>
    intro x1 x2 x3 x4 x5 x6 σ ls H locs X hl h
    rw [X12_round_140] at h
    cases h
  | succ f ih =>
    intro x1 x2 x3 x4 x5 x6 σ ls H locs X hl h
    rw [X12_round_140] at h
    refine lv_iload C.1 C.2.1 dX12_round_140 (lv_at hl 6 rfl) ?_
    refine lv_iload_n C.1 C.2.1 dX12_round_142 rfl (lv_at hl 3 rfl) ?_
    refine lv_icmp_ge (tgt := 219) C.1 C.2.1 dX12_round_143 (by decide) (fun c143 => ?_) (fun c143 => ?_)
    · replace h := ipos c143 h
      refine lv_iload C.1 C.2.1 dX12_round_219 (lv_at hl 4 rfl) ?_
      refine lv_ldcw C.1 C.2.1 C.hown (C.ts _ k_1987) dX12_round_221 ?_
      refine lv_icmp_ne (tgt := 231) C.1 C.2.1 dX12_round_224 (by decide) (fun c224 => ?_) (fun c224 => ?_)
      · replace h := ineg c224 h
        refine lv_iload_n C.1 C.2.1 dX12_round_231 rfl (lv_at hl 2 rfl) ?_
        refine lv_if_eq (tgt := 240) C.1 C.2.1 dX12_round_232 (by decide) (fun c232 => ?_) (fun c232 => ?_)
        · replace h := ipos c232 h
          refine lv_iload C.1 C.2.1 dX12_round_240 (lv_at hl 4 rfl) ?_
          rw [← Option.some.inj h]
          exact rtI C X dX12_round_242
        · replace h := ineg c232 h
          refine lv_iload C.1 C.2.1 dX12_round_235 (lv_at hl 5 rfl) ?_
          refine lv_goto (tgt := 242) C.1 C.2.1 dX12_round_237 (by decide) ?_
          rw [← Option.some.inj h]
          exact rtI C X dX12_round_242
      · replace h := ipos c224 h
        refine lv_iconst (v := -1) C.1 C.2.1 dX12_round_227 (by decide) ?_
        refine lv_goto (tgt := 242) C.1 C.2.1 dX12_round_228 (by decide) ?_
        rw [← Option.some.inj h]
        exact rtI C X dX12_round_242
    · replace h := ineg c143 h
      refine lv_aload_n C.1 C.2.1 dX12_round_146 rfl (lv_at hl 0 rfl) ?_
      refine lv_aload_n C.1 C.2.1 dX12_round_147 rfl (lv_at hl 0 rfl) ?_
      refine lv_iload_n C.1 C.2.1 dX12_round_148 rfl (lv_at hl 1 rfl) ?_
      refine lv_iconst (v := 0) C.1 C.2.1 dX12_round_149 (by decide) ?_
      obtain ⟨r150, e150, h⟩ := bnd h
      refine afI X (runV C G X q_X12_ofWalker k_1915 kp_60 k_1913 (rcX12 G X kd_399) (c_X12_ofWalker l E e150) rfl hl.1 rfl (Nat.le_of_ble_eq_true rfl) ⟨Nat.le_of_ble_eq_true rfl, Nat.le_of_ble_eq_true rfl⟩ ⟨Nat.le_of_ble_eq_true rfl, Nat.le_of_ble_eq_true rfl⟩ dX12_round_150) (fun H locs X => ?_)
      refine lv_iload C.1 C.2.1 dX12_round_153 (lv_at hl 6 rfl) ?_
      refine lv_iconst (v := 1) C.1 C.2.1 dX12_round_155 (by decide) ?_
      refine lv_iload C.1 C.2.1 dX12_round_156 (lv_at hl 6 rfl) ?_
      refine lv_ishl C.1 C.2.1 dX12_round_158 ?_
      obtain ⟨r159, e159, h⟩ := bnd h
      refine afI X (runV C G X q_X12_goesBy k_2098 kp_85 k_2096 (rcX12 G X kd_399) (c_X12_goesBy l E e159) rfl hl.1 rfl (Nat.le_of_ble_eq_true rfl) ⟨Nat.le_of_ble_eq_true rfl, Nat.le_of_ble_eq_true rfl⟩ ⟨Nat.le_of_ble_eq_true rfl, Nat.le_of_ble_eq_true rfl⟩ dX12_round_159) (fun H locs X => ?_)
      refine lv_istore (lv' := [(7, .int r159), (0, .ref (gB E + 399)), (1, .int x1), (2, .int x2), (3, .int x3), (4, .int x4), (5, .int x5), (6, .int x6)]) C.1 C.2.1 dX12_round_162 hl (by decide) rfl (fun ls hl => ?_)
      refine lv_iload C.1 C.2.1 dX12_round_164 (lv_at hl 0 rfl) ?_
      refine lv_iload C.1 C.2.1 dX12_round_166 (lv_at hl 5 rfl) ?_
      refine lv_icmp_ge (tgt := 175) C.1 C.2.1 dX12_round_168 (by decide) (fun c168 => ?_) (fun c168 => ?_)
      · replace h := ipos c168 h
        exact w_X12_round_175 C G ih X (lv_sub hl [1, 2, 3, 4, 5, 6, 7, 0] rfl) h
      · replace h := ineg c168 h
        refine lv_bipush (v := 9) C.1 C.2.1 dX12_round_171 (by decide) ?_
        refine lv_istore (lv' := [(5, .int (9 : Int32)), (7, .int r159), (0, .ref (gB E + 399)), (1, .int x1), (2, .int x2), (3, .int x3), (4, .int x4), (6, .int x6)]) C.1 C.2.1 dX12_round_173 hl (by decide) rfl (fun ls hl => ?_)
        exact w_X12_round_175 C G ih X (lv_sub hl [2, 3, 4, 5, 6, 0, 7, 1] rfl) h

set_option maxRecDepth 20000 in
theorem w_X12_round_65 {r : (Int32 × Mem)} (C : Cx p s m args meth c cX12_round (some .int) 8 RX12) (G : Gf E s) : ∀ (f : Nat) {x1 : Int32} {x2 : Int32} {x3 : Int32} {x4 : Int32} {σ : Mem} {ls : Array Slot} {H : Heap} {locs : List Loc}, Hx E σ s H locs → lv_has ls 8 [(0, .ref (gB E + 399)), (1, .int x1), (2, .int x2), (3, .int x3), (4, .int x4)] → X12_round_65 f x1 x2 x3 x4 σ = some r → W p l e (RM 4) s m args below meth c H locs 0 0 (QI E below args s r.1 r.2) (F0 m 65 ls []) := by
  intro f
  induction f with
  | zero =>
    intro x1 x2 x3 x4 σ ls H locs X hl h
    rw [X12_round_65] at h
    cases h
  | succ f ih =>
    intro x1 x2 x3 x4 σ ls H locs X hl h
    rw [X12_round_65] at h
    refine lv_iload C.1 C.2.1 dX12_round_65 (lv_at hl 4 rfl) ?_
    refine lv_aload_n C.1 C.2.1 dX12_round_67 rfl (lv_at hl 0 rfl) ?_
    refine gfX12 C G X (k := 399) kd_399 1 (v := .ref (gB E + 400)) rfl rfl (by decide) k_1652 rfl dX12_round_68 ?_
    refine lv_iconst (v := 3) C.1 C.2.1 dX12_round_71 (by decide) ?_
    obtain ⟨r72, e72, h⟩ := bnd h
    refine ald C G X (k := 400) kd_400 (ag_s e72).1 dX12_round_72 ?_
    rw [(ag_s e72).2]
    refine lv_icmp_ge (tgt := 123) C.1 C.2.1 dX12_round_73 (by decide) (fun c73 => ?_) (fun c73 => ?_)
    · replace h := ipos c73 h
      refine lv_aload_n C.1 C.2.1 dX12_round_123 rfl (lv_at hl 0 rfl) ?_
      refine lv_iload_n C.1 C.2.1 dX12_round_124 rfl (lv_at hl 3 rfl) ?_
      obtain ⟨σ125, e125, h⟩ := bnd h
      refine afV X (runV C G X q_X12_roadsOf k_2094 kp_84 k_2092 (rcX12 G X kd_399) (c_X12_roadsOf l E e125) rfl hl.1 rfl (Nat.le_of_ble_eq_true rfl) ⟨Nat.le_of_ble_eq_true rfl, Nat.le_of_ble_eq_true rfl⟩ ⟨Nat.le_of_ble_eq_true rfl, Nat.le_of_ble_eq_true rfl⟩ dX12_round_125) (fun H locs X => ?_)
      refine lv_ldcw C.1 C.2.1 C.hown (C.ts _ k_1987) dX12_round_128 ?_
      refine lv_istore (lv' := [(4, .int (2000000000 : Int32)), (0, .ref (gB E + 399)), (1, .int x1), (2, .int x2), (3, .int x3)]) C.1 C.2.1 dX12_round_131 hl (by decide) rfl (fun ls hl => ?_)
      refine lv_bipush (v := 9) C.1 C.2.1 dX12_round_133 (by decide) ?_
      refine lv_istore (lv' := [(5, .int (9 : Int32)), (4, .int (2000000000 : Int32)), (0, .ref (gB E + 399)), (1, .int x1), (2, .int x2), (3, .int x3)]) C.1 C.2.1 dX12_round_135 hl (by decide) rfl (fun ls hl => ?_)
      refine lv_iconst (v := 0) C.1 C.2.1 dX12_round_137 (by decide) ?_
      refine lv_istore (lv' := [(6, .int (0 : Int32)), (5, .int (9 : Int32)), (4, .int (2000000000 : Int32)), (0, .ref (gB E + 399)), (1, .int x1), (2, .int x2), (3, .int x3)]) C.1 C.2.1 dX12_round_138 hl (by decide) rfl (fun ls hl => ?_)
      exact w_X12_round_140 C G FU X (lv_sub hl [3, 4, 5, 6, 2, 1, 0] rfl) h
    · replace h := ineg c73 h
      refine lv_iconst (v := 0) C.1 C.2.1 dX12_round_76 (by decide) ?_
      refine lv_istore (lv' := [(5, .int (0 : Int32)), (0, .ref (gB E + 399)), (1, .int x1), (2, .int x2), (3, .int x3), (4, .int x4)]) C.1 C.2.1 dX12_round_77 hl (by decide) rfl (fun ls hl => ?_)
      exact w_X12_round_79 C G ih FU X (lv_sub hl [1, 2, 3, 4, 5, 0] rfl) h

set_option maxRecDepth 20000 in
theorem w_X12_round_36 {r : (Int32 × Mem)} {σ : Mem} {x1 : Int32} {x2 : Int32} {x3 : Int32} {y1 : Int32} {ls : Array Slot} {H : Heap} {locs : List Loc} (C : Cx p s m args meth c cX12_round (some .int) 8 RX12) (G : Gf E s) (X : Hx E σ s H locs) (hl : lv_has ls 8 [(0, .ref (gB E + 399)), (1, .int x1), (2, .int x2), (3, .int x3)]) (h : X12_round_36 x1 x2 x3 y1 σ = some r) : W p l e (RM 4) s m args below meth c H locs 0 0 (QI E below args s r.1 r.2) (F0 m 36 ls [.int y1, .ref (gB E + 399)]) := by
  rw [X12_round_36] at h
  obtain ⟨σ36, e36, h⟩ := bnd h
  refine pfX12 C G X (k := 399) kd_399 0 (x := y1) (ty := .int) rfl rfl (Nat.le_of_ble_eq_true rfl) (by decide) k_1651 rfl rfl (by decide +kernel) rfl rfl dX12_round_36 (fun H locs X => ?_)
  replace X := pu_x e36 X
  refine lv_aload_n C.1 C.2.1 dX12_round_39 rfl (lv_at hl 0 rfl) ?_
  refine gfX12 C G X (k := 399) kd_399 0 (v := .int (σ36 399 0)) rfl rfl (by decide) k_1651 rfl dX12_round_40 ?_
  refine lv_if_le (tgt := 48) C.1 C.2.1 dX12_round_43 (by decide) (fun c43 => ?_) (fun c43 => ?_)
  · replace h := ipos c43 h
    refine lv_iload_n C.1 C.2.1 dX12_round_48 rfl (lv_at hl 3 rfl) ?_
    refine lv_if_ne (tgt := 62) C.1 C.2.1 dX12_round_49 (by decide) (fun c49 => ?_) (fun c49 => ?_)
    · replace h := ineg c49 h
      refine lv_iconst (v := 0) C.1 C.2.1 dX12_round_62 (by decide) ?_
      refine lv_istore (lv' := [(4, .int (0 : Int32)), (0, .ref (gB E + 399)), (1, .int x1), (2, .int x2), (3, .int x3)]) C.1 C.2.1 dX12_round_63 hl (by decide) rfl (fun ls hl => ?_)
      exact w_X12_round_65 C G FU X (lv_sub hl [1, 2, 3, 4, 0] rfl) h
    · replace h := ipos c49 h
      refine lv_iload_n C.1 C.2.1 dX12_round_52 rfl (lv_at hl 2 rfl) ?_
      refine lv_if_eq (tgt := 60) C.1 C.2.1 dX12_round_53 (by decide) (fun c53 => ?_) (fun c53 => ?_)
      · replace h := ipos c53 h
        refine lv_iconst (v := 0) C.1 C.2.1 dX12_round_60 (by decide) ?_
        rw [← Option.some.inj h]
        exact rtI C X dX12_round_61
      · replace h := ineg c53 h
        refine lv_iconst (v := -1) C.1 C.2.1 dX12_round_56 (by decide) ?_
        refine lv_goto (tgt := 61) C.1 C.2.1 dX12_round_57 (by decide) ?_
        rw [← Option.some.inj h]
        exact rtI C X dX12_round_61
  · replace h := ineg c43 h
    refine lv_iconst (v := 0) C.1 C.2.1 dX12_round_46 (by decide) ?_
    rw [← Option.some.inj h]
    exact rtI C X dX12_round_47

set_option maxRecDepth 20000 in
theorem w_X12_round {r : (Int32 × Mem)} {σ : Mem} {x1 : Int32} {x2 : Int32} {ls : Array Slot} {H : Heap} {locs : List Loc} (C : Cx p s m args meth c cX12_round (some .int) 8 RX12) (G : Gf E s) (X : Hx E σ s H locs) (hl : lv_has ls 8 [(0, .ref (gB E + 399)), (1, .int x1), (2, .int x2)]) (h : X12_round x1 x2 σ = some r) : W p l e (RM 4) s m args below meth c H locs 0 0 (QI E below args s r.1 r.2) (F0 m 0 ls []) := by
  rw [X12_round] at h
  refine lv_aload_n C.1 C.2.1 dX12_round_0 rfl (lv_at hl 0 rfl) ?_
  refine gfX12 C G X (k := 399) kd_399 8 (v := .int (σ 399 8)) rfl rfl (by decide) k_1659 rfl dX12_round_1 ?_
  refine lv_istore_n (lv' := [(3, .int (σ 399 8)), (0, .ref (gB E + 399)), (1, .int x1), (2, .int x2)]) C.1 C.2.1 dX12_round_4 rfl hl (by decide) rfl (fun ls hl => ?_)
  refine lv_aload_n C.1 C.2.1 dX12_round_5 rfl (lv_at hl 1 rfl) ?_
  refine lv_iconst (v := 0) C.1 C.2.1 dX12_round_6 (by decide) ?_
  obtain ⟨σ7, e7, h⟩ := bnd h
  refine pfX12 C G X (k := 399) kd_399 8 (x := (0 : Int32)) (ty := .int) rfl rfl (Nat.le_of_ble_eq_true rfl) (by decide) k_1659 rfl rfl (by decide +kernel) rfl rfl dX12_round_7 (fun H locs X => ?_)
  replace X := pu_x e7 X
  refine lv_aload_n C.1 C.2.1 dX12_round_10 rfl (lv_at hl 1 rfl) ?_
  refine lv_aload_n C.1 C.2.1 dX12_round_11 rfl (lv_at hl 1 rfl) ?_
  refine lv_iload_n C.1 C.2.1 dX12_round_12 rfl (lv_at hl 2 rfl) ?_
  obtain ⟨r13, e13, h⟩ := bnd h
  refine afI X (runV C G X q_X12_isWalker k_1977 kp_72 k_1975 (rcX12 G X kd_399) (c_X12_isWalker l E e13) rfl hl.1 rfl (Nat.le_of_ble_eq_true rfl) ⟨Nat.le_of_ble_eq_true rfl, Nat.le_of_ble_eq_true rfl⟩ ⟨Nat.le_of_ble_eq_true rfl, Nat.le_of_ble_eq_true rfl⟩ dX12_round_13) (fun H locs X => ?_)
  refine lv_if_ne (tgt := 23) C.1 C.2.1 dX12_round_16 (by decide) (fun c16 => ?_) (fun c16 => ?_)
  · replace h := ineg c16 h
    refine lv_aload_n C.1 C.2.1 dX12_round_23 rfl (lv_at hl 1 rfl) ?_
    refine lv_iload_n C.1 C.2.1 dX12_round_24 rfl (lv_at hl 0 rfl) ?_
    obtain ⟨r25, e25, h⟩ := bnd h
    refine afI X (runV C G X q_X12_arePanesTold k_2090 kp_83 k_2088 (rcX12 G X kd_399) (c_X12_arePanesTold l E e25) rfl hl.1 rfl (Nat.le_of_ble_eq_true rfl) ⟨Nat.le_of_ble_eq_true rfl, Nat.le_of_ble_eq_true rfl⟩ ⟨Nat.le_of_ble_eq_true rfl, Nat.le_of_ble_eq_true rfl⟩ dX12_round_25) (fun H locs X => ?_)
    refine lv_if_ne (tgt := 35) C.1 C.2.1 dX12_round_28 (by decide) (fun c28 => ?_) (fun c28 => ?_)
    · replace h := ineg c28 h
      refine lv_iconst (v := 0) C.1 C.2.1 dX12_round_35 (by decide) ?_
      exact w_X12_round_36 C G X (lv_sub hl [1, 2, 3, 0] rfl) h
    · replace h := ipos c28 h
      refine lv_iconst (v := 2) C.1 C.2.1 dX12_round_31 (by decide) ?_
      refine lv_goto (tgt := 36) C.1 C.2.1 dX12_round_32 (by decide) ?_
      exact w_X12_round_36 C G X (lv_sub hl [1, 2, 3, 0] rfl) h
  · replace h := ipos c16 h
    refine lv_iconst (v := 1) C.1 C.2.1 dX12_round_19 (by decide) ?_
    refine lv_goto (tgt := 36) C.1 C.2.1 dX12_round_20 (by decide) ?_
    exact w_X12_round_36 C G X (lv_sub hl [1, 2, 3, 0] rfl) h

theorem c_X12_round (l : Launch) (E : GE) {σ : Mem} {x1 : Int32} {x2 : Int32} {r : (Int32 × Mem)} (h : X12_round x1 x2 σ = some r) : CtI l E yX12_round cX12_round 8 .int 4 [.ref (gB E + 399), .int x1, .int x2] σ r.1 r.2 := by
  refine Met.ofW (cc := cX12_round) (maxL := 8) (ret := (some .int)) (by decide) rfl ?_
  intro p e s m args below meth c s₁ B hml hv
  obtain ⟨rfl, G, X⟩ := start hv
  have C := cxof B hml
  have hl := lv_entry [.ref (gB E + 399), .int x1, .int x2] (n := 8) (Nat.le_of_ble_eq_true rfl)
  rw [lg_entry_eq]
  generalize (lg_sl [.ref (gB E + 399), .int x1, .int x2] ++ List.replicate (8 - (lg_sl [.ref (gB E + 399), .int x1, .int x2]).length) Slot.unset).toArray = ls at hl ⊢
  exact w_X12_round C G X hl h

set_option maxRecDepth 20000 in
theorem w_X12_beats_33 {r : (Int32 × Mem)} {σ : Mem} {rc9 : Int32 → Int32 → Mem → Option (Int32 × Mem)} {x1 : Int32} {x2 : Int32} {ls : Array Slot} {H : Heap} {locs : List Loc} (C : Cx p s m args meth c cX12_beats (some .int) 3 RX12) (G : Gf E s) (hr9 : ∀ {x1 : Int32} {x2 : Int32} {σ : Mem} {ls : Array Slot} {H : Heap} {locs : List Loc}, Hx E σ s H locs → lv_has ls 3 [(0, .ref (gB E + 399)), (1, .int x1), (2, .int x2)] → rc9 x1 x2 σ = some r → W p l e (RM 3) s m args below meth c H locs 0 0 (QI E below args s r.1 r.2) (F0 m 9 ls [])) (X : Hx E σ s H locs) (hl : lv_has ls 3 [(0, .ref (gB E + 399)), (1, .int x1), (2, .int x2)]) (h : X12_beats_33 rc9 x1 x2 σ = some r) : W p l e (RM 3) s m args below meth c H locs 0 0 (QI E below args s r.1 r.2) (F0 m 33 ls []) := by
  rw [X12_beats_33] at h
  refine lv_iload_n C.1 C.2.1 dX12_beats_33 rfl (lv_at hl 2 rfl) ?_
  refine lv_aload_n C.1 C.2.1 dX12_beats_34 rfl (lv_at hl 0 rfl) ?_
  refine lv_iload_n C.1 C.2.1 dX12_beats_35 rfl (lv_at hl 2 rfl) ?_
  obtain ⟨r36, e36, h⟩ := bnd h
  refine afI X (runV C G X q_X12_nextTo k_1947 kp_67 k_1945 (rcX12 G X kd_399) (c_X12_nextTo l E e36) rfl hl.1 rfl (Nat.le_of_ble_eq_true rfl) ⟨Nat.le_of_ble_eq_true rfl, Nat.le_of_ble_eq_true rfl⟩ ⟨Nat.le_of_ble_eq_true rfl, Nat.le_of_ble_eq_true rfl⟩ dX12_beats_36) (fun H locs X => ?_)
  refine lv_ior C.1 C.2.1 dX12_beats_39 ?_
  refine lv_aload_n C.1 C.2.1 dX12_beats_40 rfl (lv_at hl 0 rfl) ?_
  obtain ⟨r41, e41, h⟩ := bnd h
  refine afI X (runV C G X q_X12_allPanes k_2106 kp_86 k_2104 (rcX12 G X kd_399) (c_X12_allPanes l E e41) rfl hl.1 rfl (Nat.le_of_ble_eq_true rfl) ⟨Nat.le_of_ble_eq_true rfl, Nat.le_of_ble_eq_true rfl⟩ ⟨Nat.le_of_ble_eq_true rfl, Nat.le_of_ble_eq_true rfl⟩ dX12_beats_41) (fun H locs X => ?_)
  refine lv_icmp_ne (tgt := 49) C.1 C.2.1 dX12_beats_44 (by decide) (fun c44 => ?_) (fun c44 => ?_)
  · replace h := ineg c44 h
    refine lv_iinc (v := (x2 + 1)) (lv' := [(2, .int (x2 + 1)), (0, .ref (gB E + 399)), (1, .int x1)]) C.1 C.2.1 dX12_beats_49 hl (k := 2) rfl rfl (by decide) rfl (fun ls hl => ?_)
    refine lv_goto (tgt := 9) C.1 C.2.1 dX12_beats_52 (by decide) ?_
    exact hr9 X (lv_sub hl [1, 2, 0] rfl) h
  · replace h := ipos c44 h
    refine lv_iload_n C.1 C.2.1 dX12_beats_47 rfl (lv_at hl 2 rfl) ?_
    refine lv_istore_n (lv' := [(1, .int x2), (0, .ref (gB E + 399)), (2, .int x2)]) C.1 C.2.1 dX12_beats_48 rfl hl (by decide) rfl (fun ls hl => ?_)
    refine lv_iinc (v := (x2 + 1)) (lv' := [(2, .int (x2 + 1)), (1, .int x2), (0, .ref (gB E + 399))]) C.1 C.2.1 dX12_beats_49 hl (k := 2) rfl rfl (by decide) rfl (fun ls hl => ?_)
    refine lv_goto (tgt := 9) C.1 C.2.1 dX12_beats_52 (by decide) ?_
    exact hr9 X (lv_sub hl [2, 1, 0] rfl) h

set_option maxRecDepth 20000 in
theorem w_X12_beats_9 {r : (Int32 × Mem)} (C : Cx p s m args meth c cX12_beats (some .int) 3 RX12) (G : Gf E s) : ∀ (f : Nat) {x1 : Int32} {x2 : Int32} {σ : Mem} {ls : Array Slot} {H : Heap} {locs : List Loc}, Hx E σ s H locs → lv_has ls 3 [(0, .ref (gB E + 399)), (1, .int x1), (2, .int x2)] → X12_beats_9 f x1 x2 σ = some r → W p l e (RM 3) s m args below meth c H locs 0 0 (QI E below args s r.1 r.2) (F0 m 9 ls []) := by
  intro f
  induction f with
  | zero =>
    intro x1 x2 σ ls H locs X hl h
    rw [X12_beats_9] at h
    cases h
  | succ f ih =>
    intro x1 x2 σ ls H locs X hl h
    rw [X12_beats_9] at h
    refine lv_iload_n C.1 C.2.1 dX12_beats_9 rfl (lv_at hl 2 rfl) ?_
    refine lv_aload_n C.1 C.2.1 dX12_beats_10 rfl (lv_at hl 0 rfl) ?_
    obtain ⟨r11, e11, h⟩ := bnd h
    refine afI X (runV C G X q_X12_allPanes k_2106 kp_86 k_2104 (rcX12 G X kd_399) (c_X12_allPanes l E e11) rfl hl.1 rfl (Nat.le_of_ble_eq_true rfl) ⟨Nat.le_of_ble_eq_true rfl, Nat.le_of_ble_eq_true rfl⟩ ⟨Nat.le_of_ble_eq_true rfl, Nat.le_of_ble_eq_true rfl⟩ dX12_beats_11) (fun H locs X => ?_)
    refine lv_icmp_gt (tgt := 55) C.1 C.2.1 dX12_beats_14 (by decide) (fun c14 => ?_) (fun c14 => ?_)
    · replace h := ipos c14 h
      refine lv_iload_n C.1 C.2.1 dX12_beats_55 rfl (lv_at hl 1 rfl) ?_
      rw [← Option.some.inj h]
      exact rtI C X dX12_beats_56
    · replace h := ineg c14 h
      refine lv_iload_n C.1 C.2.1 dX12_beats_17 rfl (lv_at hl 1 rfl) ?_
      refine lv_iconst (v := -1) C.1 C.2.1 dX12_beats_18 (by decide) ?_
      refine lv_icmp_eq (tgt := 33) C.1 C.2.1 dX12_beats_19 (by decide) (fun c19 => ?_) (fun c19 => ?_)
      · replace h := ipos c19 h
        exact w_X12_beats_33 C G ih X (lv_sub hl [0, 1, 2] rfl) h
      · replace h := ineg c19 h
        refine lv_iload_n C.1 C.2.1 dX12_beats_22 rfl (lv_at hl 2 rfl) ?_
        obtain ⟨r23, e23, h⟩ := bnd h
        refine afI X (runS C G X q_X12_bits k_2109 k_2108 (c_X12_bits l E e23) rfl hl.1 rfl (Nat.le_of_ble_eq_true rfl) ⟨Nat.le_of_ble_eq_true rfl, Nat.le_of_ble_eq_true rfl⟩ ⟨Nat.le_of_ble_eq_true rfl, Nat.le_of_ble_eq_true rfl⟩ dX12_beats_23) (fun H locs X => ?_)
        refine lv_iload_n C.1 C.2.1 dX12_beats_26 rfl (lv_at hl 1 rfl) ?_
        obtain ⟨r27, e27, h⟩ := bnd h
        refine afI X (runS C G X q_X12_bits k_2109 k_2108 (c_X12_bits l E e27) rfl hl.1 rfl (Nat.le_of_ble_eq_true rfl) ⟨Nat.le_of_ble_eq_true rfl, Nat.le_of_ble_eq_true rfl⟩ ⟨Nat.le_of_ble_eq_true rfl, Nat.le_of_ble_eq_true rfl⟩ dX12_beats_27) (fun H locs X => ?_)
        refine lv_icmp_ge (tgt := 49) C.1 C.2.1 dX12_beats_30 (by decide) (fun c30 => ?_) (fun c30 => ?_)
        · replace h := ipos c30 h
          refine lv_iinc (v := (x2 + 1)) (lv' := [(2, .int (x2 + 1)), (0, .ref (gB E + 399)), (1, .int x1)]) C.1 C.2.1 dX12_beats_49 hl (k := 2) rfl rfl (by decide) rfl (fun ls hl => ?_)
          refine lv_goto (tgt := 9) C.1 C.2.1 dX12_beats_52 (by decide) ?_
          exact ih X (lv_sub hl [1, 2, 0] rfl) h
        · replace h := ineg c30 h
          exact w_X12_beats_33 C G ih X (lv_sub hl [0, 1, 2] rfl) h

set_option maxRecDepth 20000 in
theorem w_X12_beats {r : (Int32 × Mem)} {σ : Mem} {ls : Array Slot} {H : Heap} {locs : List Loc} (C : Cx p s m args meth c cX12_beats (some .int) 3 RX12) (G : Gf E s) (X : Hx E σ s H locs) (hl : lv_has ls 3 [(0, .ref (gB E + 399))]) (h : X12_beats σ = some r) : W p l e (RM 3) s m args below meth c H locs 0 0 (QI E below args s r.1 r.2) (F0 m 0 ls []) := by
  rw [X12_beats] at h
  refine lv_aload_n C.1 C.2.1 dX12_beats_0 rfl (lv_at hl 0 rfl) ?_
  refine lv_iconst (v := 0) C.1 C.2.1 dX12_beats_1 (by decide) ?_
  obtain ⟨σ2, e2, h⟩ := bnd h
  refine pfX12 C G X (k := 399) kd_399 0 (x := (0 : Int32)) (ty := .int) rfl rfl (Nat.le_of_ble_eq_true rfl) (by decide) k_1651 rfl rfl (by decide +kernel) rfl rfl dX12_beats_2 (fun H locs X => ?_)
  replace X := pu_x e2 X
  refine lv_iconst (v := -1) C.1 C.2.1 dX12_beats_5 (by decide) ?_
  refine lv_istore_n (lv' := [(1, .int (-1 : Int32)), (0, .ref (gB E + 399))]) C.1 C.2.1 dX12_beats_6 rfl hl (by decide) rfl (fun ls hl => ?_)
  refine lv_iconst (v := 0) C.1 C.2.1 dX12_beats_7 (by decide) ?_
  refine lv_istore_n (lv' := [(2, .int (0 : Int32)), (1, .int (-1 : Int32)), (0, .ref (gB E + 399))]) C.1 C.2.1 dX12_beats_8 rfl hl (by decide) rfl (fun ls hl => ?_)
  exact w_X12_beats_9 C G FU X (lv_sub hl [2, 1, 0] rfl) h

theorem c_X12_beats (l : Launch) (E : GE) {σ : Mem} {r : (Int32 × Mem)} (h : X12_beats σ = some r) : CtI l E yX12_beats cX12_beats 3 .int 3 [.ref (gB E + 399)] σ r.1 r.2 := by
  refine Met.ofW (cc := cX12_beats) (maxL := 3) (ret := (some .int)) (by decide) rfl ?_
  intro p e s m args below meth c s₁ B hml hv
  obtain ⟨rfl, G, X⟩ := start hv
  have C := cxof B hml
  have hl := lv_entry [.ref (gB E + 399)] (n := 3) (Nat.le_of_ble_eq_true rfl)
  rw [lg_entry_eq]
  generalize (lg_sl [.ref (gB E + 399)] ++ List.replicate (3 - (lg_sl [.ref (gB E + 399)]).length) Slot.unset).toArray = ls at hl ⊢
  exact w_X12_beats C G X hl h

set_option maxRecDepth 20000 in
theorem w_X12_pieceOf_39 {r : Int32} {σ : Mem} {rc7 : Int32 → Int32 → Int32 → Option Int32} {x2 : Int32} {x4 : Int32} {y0 : Int32} {y1 : Int32} {ls : Array Slot} {H : Heap} {locs : List Loc} (C : Cx p s m args meth c cX12_pieceOf (some .int) 5 RX12) (G : Gf E s) (hr7 : ∀ {x2 : Int32} {x3 : Int32} {x4 : Int32} {ls : Array Slot} {H : Heap} {locs : List Loc}, Hx E σ s H locs → lv_has ls 5 [(0, .ref (gB E + 399)), (2, .int x2), (3, .int x3), (4, .int x4)] → rc7 x2 x3 x4 = some r → W p l e (RM 3) s m args below meth c H locs 0 0 (QI E below args s r σ) (F0 m 7 ls [])) (X : Hx E σ s H locs) (hl : lv_has ls 5 [(0, .ref (gB E + 399)), (2, .int x2), (4, .int x4)]) (h : X12_pieceOf_39 σ rc7 x2 x4 y0 y1 = some r) : W p l e (RM 3) s m args below meth c H locs 0 0 (QI E below args s r σ) (F0 m 39 ls [.int y1, .int y0]) := by
  rw [X12_pieceOf_39] at h
  refine lv_ior C.1 C.2.1 dX12_pieceOf_39 ?_
  refine lv_istore_n (lv' := [(3, .int (y0 ||| y1)), (0, .ref (gB E + 399)), (2, .int x2), (4, .int x4)]) C.1 C.2.1 dX12_pieceOf_40 rfl hl (by decide) rfl (fun ls hl => ?_)
  refine lv_iinc (v := (x4 + 1)) (lv' := [(4, .int (x4 + 1)), (3, .int (y0 ||| y1)), (0, .ref (gB E + 399)), (2, .int x2)]) C.1 C.2.1 dX12_pieceOf_41 hl (k := 3) rfl rfl (by decide) rfl (fun ls hl => ?_)
  refine lv_goto (tgt := 7) C.1 C.2.1 dX12_pieceOf_44 (by decide) ?_
  exact hr7 X (lv_sub hl [2, 3, 1, 0] rfl) h

set_option maxRecDepth 20000 in
theorem w_X12_pieceOf_7 {r : Int32} {σ : Mem} (C : Cx p s m args meth c cX12_pieceOf (some .int) 5 RX12) (G : Gf E s) : ∀ (f : Nat) {x2 : Int32} {x3 : Int32} {x4 : Int32} {ls : Array Slot} {H : Heap} {locs : List Loc}, Hx E σ s H locs → lv_has ls 5 [(0, .ref (gB E + 399)), (2, .int x2), (3, .int x3), (4, .int x4)] → X12_pieceOf_7 σ f x2 x3 x4 = some r → W p l e (RM 3) s m args below meth c H locs 0 0 (QI E below args s r σ) (F0 m 7 ls []) := by
  intro f
  induction f with
  | zero =>
    intro x2 x3 x4 ls H locs X hl h
    rw [X12_pieceOf_7] at h
    cases h
  | succ f ih =>
    intro x2 x3 x4 ls H locs X hl h
    rw [X12_pieceOf_7] at h
    refine lv_iload C.1 C.2.1 dX12_pieceOf_7 (lv_at hl 3 rfl) ?_
    refine lv_bipush (v := 9) C.1 C.2.1 dX12_pieceOf_9 (by decide) ?_
    refine lv_icmp_ge (tgt := 47) C.1 C.2.1 dX12_pieceOf_11 (by decide) (fun c11 => ?_) (fun c11 => ?_)
    · replace h := ipos c11 h
      refine lv_iload_n C.1 C.2.1 dX12_pieceOf_47 rfl (lv_at hl 2 rfl) ?_
      rw [← Option.some.inj h]
      exact rtI C X dX12_pieceOf_48
    · replace h := ineg c11 h
      refine lv_iload_n C.1 C.2.1 dX12_pieceOf_14 rfl (lv_at hl 2 rfl) ?_
      refine lv_iload_n C.1 C.2.1 dX12_pieceOf_15 rfl (lv_at hl 1 rfl) ?_
      refine lv_iconst (v := -1) C.1 C.2.1 dX12_pieceOf_16 (by decide) ?_
      refine lv_icmp_ne (tgt := 28) C.1 C.2.1 dX12_pieceOf_17 (by decide) (fun c17 => ?_) (fun c17 => ?_)
      · replace h := ineg c17 h
        refine lv_aload_n C.1 C.2.1 dX12_pieceOf_28 rfl (lv_at hl 0 rfl) ?_
        refine lv_iload_n C.1 C.2.1 dX12_pieceOf_29 rfl (lv_at hl 2 rfl) ?_
        obtain ⟨r30, e30, h⟩ := bnd h
        refine afI X (runV C G X q_X12_nextTo k_1947 kp_67 k_1945 (rcX12 G X kd_399) (c_X12_nextTo l E e30) rfl hl.1 rfl (Nat.le_of_ble_eq_true rfl) ⟨Nat.le_of_ble_eq_true rfl, Nat.le_of_ble_eq_true rfl⟩ ⟨Nat.le_of_ble_eq_true rfl, Nat.le_of_ble_eq_true rfl⟩ dX12_pieceOf_30) (fun H locs X => ?_)
        refine lv_iconst (v := 1) C.1 C.2.1 dX12_pieceOf_33 (by decide) ?_
        refine lv_iload_n C.1 C.2.1 dX12_pieceOf_34 rfl (lv_at hl 1 rfl) ?_
        refine lv_ishl C.1 C.2.1 dX12_pieceOf_35 ?_
        refine lv_iconst (v := -1) C.1 C.2.1 dX12_pieceOf_36 (by decide) ?_
        refine lv_ixor C.1 C.2.1 dX12_pieceOf_37 ?_
        refine lv_iand C.1 C.2.1 dX12_pieceOf_38 ?_
        exact w_X12_pieceOf_39 C G ih X (lv_sub hl [0, 1, 3] rfl) h
      · replace h := ipos c17 h
        refine lv_aload_n C.1 C.2.1 dX12_pieceOf_20 rfl (lv_at hl 0 rfl) ?_
        refine lv_iload_n C.1 C.2.1 dX12_pieceOf_21 rfl (lv_at hl 2 rfl) ?_
        obtain ⟨r22, e22, h⟩ := bnd h
        refine afI X (runV C G X q_X12_nextTo k_1947 kp_67 k_1945 (rcX12 G X kd_399) (c_X12_nextTo l E e22) rfl hl.1 rfl (Nat.le_of_ble_eq_true rfl) ⟨Nat.le_of_ble_eq_true rfl, Nat.le_of_ble_eq_true rfl⟩ ⟨Nat.le_of_ble_eq_true rfl, Nat.le_of_ble_eq_true rfl⟩ dX12_pieceOf_22) (fun H locs X => ?_)
        refine lv_goto (tgt := 39) C.1 C.2.1 dX12_pieceOf_25 (by decide) ?_
        exact w_X12_pieceOf_39 C G ih X (lv_sub hl [0, 1, 3] rfl) h

set_option maxRecDepth 20000 in
theorem w_X12_pieceOf {r : Int32} {σ : Mem} {x1 : Int32} {x2 : Int32} {ls : Array Slot} {H : Heap} {locs : List Loc} (C : Cx p s m args meth c cX12_pieceOf (some .int) 5 RX12) (G : Gf E s) (X : Hx E σ s H locs) (hl : lv_has ls 5 [(0, .ref (gB E + 399)), (1, .int x1), (2, .int x2)]) (h : X12_pieceOf σ x1 x2 = some r) : W p l e (RM 3) s m args below meth c H locs 0 0 (QI E below args s r σ) (F0 m 0 ls []) := by
  rw [X12_pieceOf] at h
  refine lv_iconst (v := 1) C.1 C.2.1 dX12_pieceOf_0 (by decide) ?_
  refine lv_iload_n C.1 C.2.1 dX12_pieceOf_1 rfl (lv_at hl 1 rfl) ?_
  refine lv_ishl C.1 C.2.1 dX12_pieceOf_2 ?_
  refine lv_istore_n (lv' := [(3, .int ((1 : Int32) <<< (x1 &&& 31))), (0, .ref (gB E + 399)), (1, .int x1), (2, .int x2)]) C.1 C.2.1 dX12_pieceOf_3 rfl hl (by decide) rfl (fun ls hl => ?_)
  refine lv_iconst (v := 0) C.1 C.2.1 dX12_pieceOf_4 (by decide) ?_
  refine lv_istore (lv' := [(4, .int (0 : Int32)), (3, .int ((1 : Int32) <<< (x1 &&& 31))), (0, .ref (gB E + 399)), (1, .int x1), (2, .int x2)]) C.1 C.2.1 dX12_pieceOf_5 hl (by decide) rfl (fun ls hl => ?_)
  exact w_X12_pieceOf_7 C G FU X (lv_sub hl [2, 4, 1, 0] rfl) h

theorem c_X12_pieceOf (l : Launch) (E : GE) {σ : Mem} {x1 : Int32} {x2 : Int32} {r : Int32} (h : X12_pieceOf σ x1 x2 = some r) : CtI l E yX12_pieceOf cX12_pieceOf 5 .int 3 [.ref (gB E + 399), .int x1, .int x2] σ r σ := by
  refine Met.ofW (cc := cX12_pieceOf) (maxL := 5) (ret := (some .int)) (by decide) rfl ?_
  intro p e s m args below meth c s₁ B hml hv
  obtain ⟨rfl, G, X⟩ := start hv
  have C := cxof B hml
  have hl := lv_entry [.ref (gB E + 399), .int x1, .int x2] (n := 5) (Nat.le_of_ble_eq_true rfl)
  rw [lg_entry_eq]
  generalize (lg_sl [.ref (gB E + 399), .int x1, .int x2] ++ List.replicate (5 - (lg_sl [.ref (gB E + 399), .int x1, .int x2]).length) Slot.unset).toArray = ls at hl ⊢
  exact w_X12_pieceOf C G X hl h

set_option maxRecDepth 20000 in
theorem w_X12_parts_14 {r : (Int32 × Mem)} (C : Cx p s m args meth c cX12_parts (some .int) 4 RX12) (G : Gf E s) : ∀ (f : Nat) {x1 : Int32} {x2 : Int32} {x3 : Int32} {σ : Mem} {ls : Array Slot} {H : Heap} {locs : List Loc}, Hx E σ s H locs → lv_has ls 4 [(0, .ref (gB E + 399)), (1, .int x1), (2, .int x2), (3, .int x3)] → X12_parts_14 f x1 x2 x3 σ = some r → W p l e (RM 4) s m args below meth c H locs 0 0 (QI E below args s r.1 r.2) (F0 m 14 ls []) := by
  intro f
  induction f with
  | zero =>
    intro x1 x2 x3 σ ls H locs X hl h
    rw [X12_parts_14] at h
    cases h
  | succ f ih =>
    intro x1 x2 x3 σ ls H locs X hl h
    rw [X12_parts_14] at h
    refine lv_iload_n C.1 C.2.1 dX12_parts_14 rfl (lv_at hl 3 rfl) ?_
    refine lv_aload_n C.1 C.2.1 dX12_parts_15 rfl (lv_at hl 0 rfl) ?_
    refine gfX12 C G X (k := 399) kd_399 1 (v := .ref (gB E + 400)) rfl rfl (by decide) k_1652 rfl dX12_parts_16 ?_
    refine lv_iconst (v := 3) C.1 C.2.1 dX12_parts_19 (by decide) ?_
    obtain ⟨r20, e20, h⟩ := bnd h
    refine ald C G X (k := 400) kd_400 (ag_s e20).1 dX12_parts_20 ?_
    rw [(ag_s e20).2]
    refine lv_icmp_ge (tgt := 55) C.1 C.2.1 dX12_parts_21 (by decide) (fun c21 => ?_) (fun c21 => ?_)
    · replace h := ipos c21 h
      refine lv_iload_n C.1 C.2.1 dX12_parts_55 rfl (lv_at hl 2 rfl) ?_
      rw [← Option.some.inj h]
      exact rtI C X dX12_parts_56
    · replace h := ineg c21 h
      refine lv_iload_n C.1 C.2.1 dX12_parts_24 rfl (lv_at hl 1 rfl) ?_
      refine lv_iload_n C.1 C.2.1 dX12_parts_25 rfl (lv_at hl 3 rfl) ?_
      obtain ⟨r26, e26, h⟩ := bnd h
      refine afI X (runS C G X q_X12_isOf k_1943 k_1942 (c_X12_isOf l E e26) rfl hl.1 rfl (Nat.le_of_ble_eq_true rfl) ⟨Nat.le_of_ble_eq_true rfl, Nat.le_of_ble_eq_true rfl⟩ ⟨Nat.le_of_ble_eq_true rfl, Nat.le_of_ble_eq_true rfl⟩ dX12_parts_26) (fun H locs X => ?_)
      refine lv_if_ne (tgt := 35) C.1 C.2.1 dX12_parts_29 (by decide) (fun c29 => ?_) (fun c29 => ?_)
      · replace h := ineg c29 h
        refine lv_iload_n C.1 C.2.1 dX12_parts_35 rfl (lv_at hl 1 rfl) ?_
        refine lv_aload_n C.1 C.2.1 dX12_parts_36 rfl (lv_at hl 0 rfl) ?_
        refine lv_iload_n C.1 C.2.1 dX12_parts_37 rfl (lv_at hl 3 rfl) ?_
        refine lv_iconst (v := -1) C.1 C.2.1 dX12_parts_38 (by decide) ?_
        obtain ⟨r39, e39, h⟩ := bnd h
        refine afI X (runV C G X q_X12_pieceOf k_2117 kp_87 k_2115 (rcX12 G X kd_399) (c_X12_pieceOf l E e39) rfl hl.1 rfl (Nat.le_of_ble_eq_true rfl) ⟨Nat.le_of_ble_eq_true rfl, Nat.le_of_ble_eq_true rfl⟩ ⟨Nat.le_of_ble_eq_true rfl, Nat.le_of_ble_eq_true rfl⟩ dX12_parts_39) (fun H locs X => ?_)
        refine lv_iconst (v := -1) C.1 C.2.1 dX12_parts_42 (by decide) ?_
        refine lv_ixor C.1 C.2.1 dX12_parts_43 ?_
        refine lv_iand C.1 C.2.1 dX12_parts_44 ?_
        refine lv_istore_n (lv' := [(1, .int (x1 &&& (r39 ^^^ (-1 : Int32)))), (0, .ref (gB E + 399)), (2, .int x2), (3, .int x3)]) C.1 C.2.1 dX12_parts_45 rfl hl (by decide) rfl (fun ls hl => ?_)
        refine lv_iinc (v := (x2 + 1)) (lv' := [(2, .int (x2 + 1)), (1, .int (x1 &&& (r39 ^^^ (-1 : Int32)))), (0, .ref (gB E + 399)), (3, .int x3)]) C.1 C.2.1 dX12_parts_46 hl (k := 2) rfl rfl (by decide) rfl (fun ls hl => ?_)
        refine lv_iinc (v := (x3 + 1)) (lv' := [(3, .int (x3 + 1)), (2, .int (x2 + 1)), (1, .int (x1 &&& (r39 ^^^ (-1 : Int32)))), (0, .ref (gB E + 399))]) C.1 C.2.1 dX12_parts_49 hl (k := 3) rfl rfl (by decide) rfl (fun ls hl => ?_)
        refine lv_goto (tgt := 14) C.1 C.2.1 dX12_parts_52 (by decide) ?_
        exact ih X (lv_sub hl [3, 2, 1, 0] rfl) h
      · replace h := ipos c29 h
        refine lv_goto (tgt := 49) C.1 C.2.1 dX12_parts_32 (by decide) ?_
        refine lv_iinc (v := (x3 + 1)) (lv' := [(3, .int (x3 + 1)), (0, .ref (gB E + 399)), (1, .int x1), (2, .int x2)]) C.1 C.2.1 dX12_parts_49 hl (k := 3) rfl rfl (by decide) rfl (fun ls hl => ?_)
        refine lv_goto (tgt := 14) C.1 C.2.1 dX12_parts_52 (by decide) ?_
        exact ih X (lv_sub hl [1, 2, 3, 0] rfl) h

set_option maxRecDepth 20000 in
theorem w_X12_parts {r : (Int32 × Mem)} {σ : Mem} {ls : Array Slot} {H : Heap} {locs : List Loc} (C : Cx p s m args meth c cX12_parts (some .int) 4 RX12) (G : Gf E s) (X : Hx E σ s H locs) (hl : lv_has ls 4 [(0, .ref (gB E + 399))]) (h : X12_parts σ = some r) : W p l e (RM 4) s m args below meth c H locs 0 0 (QI E below args s r.1 r.2) (F0 m 0 ls []) := by
  rw [X12_parts] at h
  refine lv_aload_n C.1 C.2.1 dX12_parts_0 rfl (lv_at hl 0 rfl) ?_
  refine lv_iconst (v := 0) C.1 C.2.1 dX12_parts_1 (by decide) ?_
  obtain ⟨σ2, e2, h⟩ := bnd h
  refine pfX12 C G X (k := 399) kd_399 0 (x := (0 : Int32)) (ty := .int) rfl rfl (Nat.le_of_ble_eq_true rfl) (by decide) k_1651 rfl rfl (by decide +kernel) rfl rfl dX12_parts_2 (fun H locs X => ?_)
  replace X := pu_x e2 X
  refine lv_aload_n C.1 C.2.1 dX12_parts_5 rfl (lv_at hl 0 rfl) ?_
  obtain ⟨r6, e6, h⟩ := bnd h
  refine afI X (runV C G X q_X12_allPanes k_2106 kp_86 k_2104 (rcX12 G X kd_399) (c_X12_allPanes l E e6) rfl hl.1 rfl (Nat.le_of_ble_eq_true rfl) ⟨Nat.le_of_ble_eq_true rfl, Nat.le_of_ble_eq_true rfl⟩ ⟨Nat.le_of_ble_eq_true rfl, Nat.le_of_ble_eq_true rfl⟩ dX12_parts_6) (fun H locs X => ?_)
  refine lv_istore_n (lv' := [(1, .int r6), (0, .ref (gB E + 399))]) C.1 C.2.1 dX12_parts_9 rfl hl (by decide) rfl (fun ls hl => ?_)
  refine lv_iconst (v := 0) C.1 C.2.1 dX12_parts_10 (by decide) ?_
  refine lv_istore_n (lv' := [(2, .int (0 : Int32)), (1, .int r6), (0, .ref (gB E + 399))]) C.1 C.2.1 dX12_parts_11 rfl hl (by decide) rfl (fun ls hl => ?_)
  refine lv_iconst (v := 0) C.1 C.2.1 dX12_parts_12 (by decide) ?_
  refine lv_istore_n (lv' := [(3, .int (0 : Int32)), (2, .int (0 : Int32)), (1, .int r6), (0, .ref (gB E + 399))]) C.1 C.2.1 dX12_parts_13 rfl hl (by decide) rfl (fun ls hl => ?_)
  exact w_X12_parts_14 C G FU X (lv_sub hl [3, 2, 1, 0] rfl) h

theorem c_X12_parts (l : Launch) (E : GE) {σ : Mem} {r : (Int32 × Mem)} (h : X12_parts σ = some r) : CtI l E yX12_parts cX12_parts 4 .int 4 [.ref (gB E + 399)] σ r.1 r.2 := by
  refine Met.ofW (cc := cX12_parts) (maxL := 4) (ret := (some .int)) (by decide) rfl ?_
  intro p e s m args below meth c s₁ B hml hv
  obtain ⟨rfl, G, X⟩ := start hv
  have C := cxof B hml
  have hl := lv_entry [.ref (gB E + 399)] (n := 4) (Nat.le_of_ble_eq_true rfl)
  rw [lg_entry_eq]
  generalize (lg_sl [.ref (gB E + 399)] ++ List.replicate (4 - (lg_sl [.ref (gB E + 399)]).length) Slot.unset).toArray = ls at hl ⊢
  exact w_X12_parts C G X hl h

set_option maxRecDepth 20000 in
theorem w_X12_bend_21 {r : (Int32 × Mem)} {rc9 : Int32 → Int32 → Mem → Option (Int32 × Mem)} (C : Cx p s m args meth c cX12_bend (some .int) 4 RX12) (G : Gf E s) (hr9 : ∀ {x1 : Int32} {x2 : Int32} {σ : Mem} {ls : Array Slot} {H : Heap} {locs : List Loc}, Hx E σ s H locs → lv_has ls 4 [(0, .ref (gB E + 399)), (1, .int x1), (2, .int x2)] → rc9 x1 x2 σ = some r → W p l e (RM 4) s m args below meth c H locs 0 0 (QI E below args s r.1 r.2) (F0 m 9 ls [])) : ∀ (f : Nat) {x1 : Int32} {x2 : Int32} {x3 : Int32} {σ : Mem} {ls : Array Slot} {H : Heap} {locs : List Loc}, Hx E σ s H locs → lv_has ls 4 [(0, .ref (gB E + 399)), (1, .int x1), (2, .int x2), (3, .int x3)] → X12_bend_21 rc9 f x1 x2 x3 σ = some r → W p l e (RM 4) s m args below meth c H locs 0 0 (QI E below args s r.1 r.2) (F0 m 21 ls []) := by
  intro f
  induction f with
  | zero =>
    intro x1 x2 x3 σ ls H locs X hl h
    rw [X12_bend_21] at h
    cases h
  | succ f ih =>
    intro x1 x2 x3 σ ls H locs X hl h
    rw [X12_bend_21] at h
    refine lv_iload_n C.1 C.2.1 dX12_bend_21 rfl (lv_at hl 3 rfl) ?_
    refine lv_aload_n C.1 C.2.1 dX12_bend_22 rfl (lv_at hl 0 rfl) ?_
    refine gfX12 C G X (k := 399) kd_399 1 (v := .ref (gB E + 400)) rfl rfl (by decide) k_1652 rfl dX12_bend_23 ?_
    refine lv_iconst (v := 3) C.1 C.2.1 dX12_bend_26 (by decide) ?_
    obtain ⟨r27, e27, h⟩ := bnd h
    refine ald C G X (k := 400) kd_400 (ag_s e27).1 dX12_bend_27 ?_
    rw [(ag_s e27).2]
    refine lv_icmp_ge (tgt := 69) C.1 C.2.1 dX12_bend_28 (by decide) (fun c28 => ?_) (fun c28 => ?_)
    · replace h := ipos c28 h
      refine lv_iinc (v := (x2 + 1)) (lv' := [(2, .int (x2 + 1)), (0, .ref (gB E + 399)), (1, .int x1), (3, .int x3)]) C.1 C.2.1 dX12_bend_69 hl (k := 2) rfl rfl (by decide) rfl (fun ls hl => ?_)
      refine lv_goto (tgt := 9) C.1 C.2.1 dX12_bend_72 (by decide) ?_
      exact hr9 X (lv_sub hl [1, 2, 0] rfl) h
    · replace h := ineg c28 h
      refine lv_iload_n C.1 C.2.1 dX12_bend_31 rfl (lv_at hl 3 rfl) ?_
      refine lv_iload_n C.1 C.2.1 dX12_bend_32 rfl (lv_at hl 2 rfl) ?_
      refine lv_icmp_eq (tgt := 63) C.1 C.2.1 dX12_bend_33 (by decide) (fun c33 => ?_) (fun c33 => ?_)
      · replace h := ipos c33 h
        refine lv_iinc (v := (x3 + 1)) (lv' := [(3, .int (x3 + 1)), (0, .ref (gB E + 399)), (1, .int x1), (2, .int x2)]) C.1 C.2.1 dX12_bend_63 hl (k := 3) rfl rfl (by decide) rfl (fun ls hl => ?_)
        refine lv_goto (tgt := 21) C.1 C.2.1 dX12_bend_66 (by decide) ?_
        exact ih X (lv_sub hl [1, 2, 3, 0] rfl) h
      · replace h := ineg c33 h
        refine lv_aload_n C.1 C.2.1 dX12_bend_36 rfl (lv_at hl 0 rfl) ?_
        refine lv_iload_n C.1 C.2.1 dX12_bend_37 rfl (lv_at hl 3 rfl) ?_
        refine lv_iconst (v := -1) C.1 C.2.1 dX12_bend_38 (by decide) ?_
        obtain ⟨r39, e39, h⟩ := bnd h
        refine afI X (runV C G X q_X12_pieceOf k_2117 kp_87 k_2115 (rcX12 G X kd_399) (c_X12_pieceOf l E e39) rfl hl.1 rfl (Nat.le_of_ble_eq_true rfl) ⟨Nat.le_of_ble_eq_true rfl, Nat.le_of_ble_eq_true rfl⟩ ⟨Nat.le_of_ble_eq_true rfl, Nat.le_of_ble_eq_true rfl⟩ dX12_bend_39) (fun H locs X => ?_)
        refine lv_iconst (v := 1) C.1 C.2.1 dX12_bend_42 (by decide) ?_
        refine lv_iload_n C.1 C.2.1 dX12_bend_43 rfl (lv_at hl 2 rfl) ?_
        refine lv_ishl C.1 C.2.1 dX12_bend_44 ?_
        refine lv_iconst (v := -1) C.1 C.2.1 dX12_bend_45 (by decide) ?_
        refine lv_ixor C.1 C.2.1 dX12_bend_46 ?_
        refine lv_iand C.1 C.2.1 dX12_bend_47 ?_
        refine lv_aload_n C.1 C.2.1 dX12_bend_48 rfl (lv_at hl 0 rfl) ?_
        refine lv_iload_n C.1 C.2.1 dX12_bend_49 rfl (lv_at hl 3 rfl) ?_
        refine lv_iload_n C.1 C.2.1 dX12_bend_50 rfl (lv_at hl 2 rfl) ?_
        obtain ⟨r51, e51, h⟩ := bnd h
        refine afI X (runV C G X q_X12_pieceOf k_2117 kp_87 k_2115 (rcX12 G X kd_399) (c_X12_pieceOf l E e51) rfl hl.1 rfl (Nat.le_of_ble_eq_true rfl) ⟨Nat.le_of_ble_eq_true rfl, Nat.le_of_ble_eq_true rfl⟩ ⟨Nat.le_of_ble_eq_true rfl, Nat.le_of_ble_eq_true rfl⟩ dX12_bend_51) (fun H locs X => ?_)
        refine lv_icmp_eq (tgt := 63) C.1 C.2.1 dX12_bend_54 (by decide) (fun c54 => ?_) (fun c54 => ?_)
        · replace h := ipos c54 h
          refine lv_iinc (v := (x3 + 1)) (lv' := [(3, .int (x3 + 1)), (0, .ref (gB E + 399)), (1, .int x1), (2, .int x2)]) C.1 C.2.1 dX12_bend_63 hl (k := 3) rfl rfl (by decide) rfl (fun ls hl => ?_)
          refine lv_goto (tgt := 21) C.1 C.2.1 dX12_bend_66 (by decide) ?_
          exact ih X (lv_sub hl [1, 2, 3, 0] rfl) h
        · replace h := ineg c54 h
          refine lv_iload_n C.1 C.2.1 dX12_bend_57 rfl (lv_at hl 1 rfl) ?_
          refine lv_iconst (v := 1) C.1 C.2.1 dX12_bend_58 (by decide) ?_
          refine lv_iload_n C.1 C.2.1 dX12_bend_59 rfl (lv_at hl 2 rfl) ?_
          refine lv_ishl C.1 C.2.1 dX12_bend_60 ?_
          refine lv_ior C.1 C.2.1 dX12_bend_61 ?_
          refine lv_istore_n (lv' := [(1, .int (x1 ||| ((1 : Int32) <<< (x2 &&& 31)))), (0, .ref (gB E + 399)), (2, .int x2), (3, .int x3)]) C.1 C.2.1 dX12_bend_62 rfl hl (by decide) rfl (fun ls hl => ?_)
          refine lv_iinc (v := (x3 + 1)) (lv' := [(3, .int (x3 + 1)), (1, .int (x1 ||| ((1 : Int32) <<< (x2 &&& 31)))), (0, .ref (gB E + 399)), (2, .int x2)]) C.1 C.2.1 dX12_bend_63 hl (k := 3) rfl rfl (by decide) rfl (fun ls hl => ?_)
          refine lv_goto (tgt := 21) C.1 C.2.1 dX12_bend_66 (by decide) ?_
          exact ih X (lv_sub hl [2, 1, 3, 0] rfl) h

set_option maxRecDepth 20000 in
theorem w_X12_bend_9 {r : (Int32 × Mem)} (C : Cx p s m args meth c cX12_bend (some .int) 4 RX12) (G : Gf E s) : ∀ (f : Nat) {x1 : Int32} {x2 : Int32} {σ : Mem} {ls : Array Slot} {H : Heap} {locs : List Loc}, Hx E σ s H locs → lv_has ls 4 [(0, .ref (gB E + 399)), (1, .int x1), (2, .int x2)] → X12_bend_9 f x1 x2 σ = some r → W p l e (RM 4) s m args below meth c H locs 0 0 (QI E below args s r.1 r.2) (F0 m 9 ls []) := by
  intro f
  induction f with
  | zero =>
    intro x1 x2 σ ls H locs X hl h
    rw [X12_bend_9] at h
    cases h
  | succ f ih =>
    intro x1 x2 σ ls H locs X hl h
    rw [X12_bend_9] at h
    refine lv_iload_n C.1 C.2.1 dX12_bend_9 rfl (lv_at hl 2 rfl) ?_
    refine lv_aload_n C.1 C.2.1 dX12_bend_10 rfl (lv_at hl 0 rfl) ?_
    refine gfX12 C G X (k := 399) kd_399 1 (v := .ref (gB E + 400)) rfl rfl (by decide) k_1652 rfl dX12_bend_11 ?_
    refine lv_iconst (v := 3) C.1 C.2.1 dX12_bend_14 (by decide) ?_
    obtain ⟨r15, e15, h⟩ := bnd h
    refine ald C G X (k := 400) kd_400 (ag_s e15).1 dX12_bend_15 ?_
    rw [(ag_s e15).2]
    refine lv_icmp_ge (tgt := 75) C.1 C.2.1 dX12_bend_16 (by decide) (fun c16 => ?_) (fun c16 => ?_)
    · replace h := ipos c16 h
      refine lv_iload_n C.1 C.2.1 dX12_bend_75 rfl (lv_at hl 1 rfl) ?_
      rw [← Option.some.inj h]
      exact rtI C X dX12_bend_76
    · replace h := ineg c16 h
      refine lv_iconst (v := 0) C.1 C.2.1 dX12_bend_19 (by decide) ?_
      refine lv_istore_n (lv' := [(3, .int (0 : Int32)), (0, .ref (gB E + 399)), (1, .int x1), (2, .int x2)]) C.1 C.2.1 dX12_bend_20 rfl hl (by decide) rfl (fun ls hl => ?_)
      exact w_X12_bend_21 C G ih FU X (lv_sub hl [1, 2, 3, 0] rfl) h

set_option maxRecDepth 20000 in
theorem w_X12_bend {r : (Int32 × Mem)} {σ : Mem} {ls : Array Slot} {H : Heap} {locs : List Loc} (C : Cx p s m args meth c cX12_bend (some .int) 4 RX12) (G : Gf E s) (X : Hx E σ s H locs) (hl : lv_has ls 4 [(0, .ref (gB E + 399))]) (h : X12_bend σ = some r) : W p l e (RM 4) s m args below meth c H locs 0 0 (QI E below args s r.1 r.2) (F0 m 0 ls []) := by
  rw [X12_bend] at h
  refine lv_aload_n C.1 C.2.1 dX12_bend_0 rfl (lv_at hl 0 rfl) ?_
  refine lv_iconst (v := 0) C.1 C.2.1 dX12_bend_1 (by decide) ?_
  obtain ⟨σ2, e2, h⟩ := bnd h
  refine pfX12 C G X (k := 399) kd_399 0 (x := (0 : Int32)) (ty := .int) rfl rfl (Nat.le_of_ble_eq_true rfl) (by decide) k_1651 rfl rfl (by decide +kernel) rfl rfl dX12_bend_2 (fun H locs X => ?_)
  replace X := pu_x e2 X
  refine lv_iconst (v := 0) C.1 C.2.1 dX12_bend_5 (by decide) ?_
  refine lv_istore_n (lv' := [(1, .int (0 : Int32)), (0, .ref (gB E + 399))]) C.1 C.2.1 dX12_bend_6 rfl hl (by decide) rfl (fun ls hl => ?_)
  refine lv_iconst (v := 0) C.1 C.2.1 dX12_bend_7 (by decide) ?_
  refine lv_istore_n (lv' := [(2, .int (0 : Int32)), (1, .int (0 : Int32)), (0, .ref (gB E + 399))]) C.1 C.2.1 dX12_bend_8 rfl hl (by decide) rfl (fun ls hl => ?_)
  exact w_X12_bend_9 C G FU X (lv_sub hl [2, 1, 0] rfl) h

theorem c_X12_bend (l : Launch) (E : GE) {σ : Mem} {r : (Int32 × Mem)} (h : X12_bend σ = some r) : CtI l E yX12_bend cX12_bend 4 .int 4 [.ref (gB E + 399)] σ r.1 r.2 := by
  refine Met.ofW (cc := cX12_bend) (maxL := 4) (ret := (some .int)) (by decide) rfl ?_
  intro p e s m args below meth c s₁ B hml hv
  obtain ⟨rfl, G, X⟩ := start hv
  have C := cxof B hml
  have hl := lv_entry [.ref (gB E + 399)] (n := 4) (Nat.le_of_ble_eq_true rfl)
  rw [lg_entry_eq]
  generalize (lg_sl [.ref (gB E + 399)] ++ List.replicate (4 - (lg_sl [.ref (gB E + 399)]).length) Slot.unset).toArray = ls at hl ⊢
  exact w_X12_bend C G X hl h

set_option maxRecDepth 20000 in
theorem w_X12_findsWalk_63 {r : (Int32 × Mem)} {rc30 : Int32 → Int32 → Int32 → Mem → Option (Int32 × Mem)} {rc49 : Int32 → Int32 → Int32 → Int32 → Mem → Option (Int32 × Mem)} (C : Cx p s m args meth c cX12_findsWalk (some .boolean) 6 RX12) (G : Gf E s) (hr30 : ∀ {x1 : Int32} {x2 : Int32} {x3 : Int32} {σ : Mem} {ls : Array Slot} {H : Heap} {locs : List Loc}, Hx E σ s H locs → lv_has ls 6 [(0, .ref (gB E + 399)), (1, .int x1), (2, .int x2), (3, .int x3)] → rc30 x1 x2 x3 σ = some r → W p l e (RM 2) s m args below meth c H locs 0 0 (QI E below args s r.1 r.2) (F0 m 30 ls [])) (hr49 : ∀ {x1 : Int32} {x2 : Int32} {x3 : Int32} {x4 : Int32} {σ : Mem} {ls : Array Slot} {H : Heap} {locs : List Loc}, Hx E σ s H locs → lv_has ls 6 [(0, .ref (gB E + 399)), (1, .int x1), (2, .int x2), (3, .int x3), (4, .int x4)] → rc49 x1 x2 x3 x4 σ = some r → W p l e (RM 2) s m args below meth c H locs 0 0 (QI E below args s r.1 r.2) (F0 m 49 ls [])) : ∀ (f : Nat) {x1 : Int32} {x2 : Int32} {x3 : Int32} {x4 : Int32} {x5 : Int32} {σ : Mem} {ls : Array Slot} {H : Heap} {locs : List Loc}, Hx E σ s H locs → lv_has ls 6 [(0, .ref (gB E + 399)), (1, .int x1), (2, .int x2), (3, .int x3), (4, .int x4), (5, .int x5)] → X12_findsWalk_63 rc30 rc49 f x1 x2 x3 x4 x5 σ = some r → W p l e (RM 2) s m args below meth c H locs 0 0 (QI E below args s r.1 r.2) (F0 m 63 ls []) := by
  intro f
  induction f with
  | zero =>
    intro x1 x2 x3 x4 x5 σ ls H locs X hl h
    rw [X12_findsWalk_63] at h
    cases h
  | succ f ih =>
    intro x1 x2 x3 x4 x5 σ ls H locs X hl h
    rw [X12_findsWalk_63] at h
    refine lv_iload C.1 C.2.1 dX12_findsWalk_63 (lv_at hl 5 rfl) ?_
    refine lv_aload_n C.1 C.2.1 dX12_findsWalk_65 rfl (lv_at hl 0 rfl) ?_
    refine gfX12 C G X (k := 399) kd_399 1 (v := .ref (gB E + 400)) rfl rfl (by decide) k_1652 rfl dX12_findsWalk_66 ?_
    refine lv_iconst (v := 3) C.1 C.2.1 dX12_findsWalk_69 (by decide) ?_
    obtain ⟨r70, e70, h⟩ := bnd h
    refine ald C G X (k := 400) kd_400 (ag_s e70).1 dX12_findsWalk_70 ?_
    rw [(ag_s e70).2]
    refine lv_icmp_ge (tgt := 143) C.1 C.2.1 dX12_findsWalk_71 (by decide) (fun c71 => ?_) (fun c71 => ?_)
    · replace h := ipos c71 h
      refine lv_iinc (v := (x4 + 1)) (lv' := [(4, .int (x4 + 1)), (0, .ref (gB E + 399)), (1, .int x1), (2, .int x2), (3, .int x3), (5, .int x5)]) C.1 C.2.1 dX12_findsWalk_143 hl (k := 4) rfl rfl (by decide) rfl (fun ls hl => ?_)
      refine lv_goto (tgt := 49) C.1 C.2.1 dX12_findsWalk_146 (by decide) ?_
      exact hr49 X (lv_sub hl [1, 2, 3, 4, 0] rfl) h
    · replace h := ineg c71 h
      refine lv_aload_n C.1 C.2.1 dX12_findsWalk_74 rfl (lv_at hl 0 rfl) ?_
      refine gfX12 C G X (k := 399) kd_399 22 (v := .ref (gB E + 410)) rfl rfl (by decide) k_1673 rfl dX12_findsWalk_75 ?_
      refine lv_iload C.1 C.2.1 dX12_findsWalk_78 (lv_at hl 4 rfl) ?_
      obtain ⟨r80, e80, h⟩ := bnd h
      refine ald C G X (k := 410) kd_410 (ag_s e80).1 dX12_findsWalk_80 ?_
      rw [(ag_s e80).2]
      refine lv_iconst (v := -1) C.1 C.2.1 dX12_findsWalk_81 (by decide) ?_
      refine lv_icmp_eq (tgt := 137) C.1 C.2.1 dX12_findsWalk_82 (by decide) (fun c82 => ?_) (fun c82 => ?_)
      · replace h := ipos c82 h
        refine lv_iinc (v := (x5 + 1)) (lv' := [(5, .int (x5 + 1)), (0, .ref (gB E + 399)), (1, .int x1), (2, .int x2), (3, .int x3), (4, .int x4)]) C.1 C.2.1 dX12_findsWalk_137 hl (k := 5) rfl rfl (by decide) rfl (fun ls hl => ?_)
        refine lv_goto (tgt := 63) C.1 C.2.1 dX12_findsWalk_140 (by decide) ?_
        exact ih X (lv_sub hl [1, 2, 3, 4, 5, 0] rfl) h
      · replace h := ineg c82 h
        refine lv_aload_n C.1 C.2.1 dX12_findsWalk_85 rfl (lv_at hl 0 rfl) ?_
        refine gfX12 C G X (k := 399) kd_399 22 (v := .ref (gB E + 410)) rfl rfl (by decide) k_1673 rfl dX12_findsWalk_86 ?_
        refine lv_iload C.1 C.2.1 dX12_findsWalk_89 (lv_at hl 5 rfl) ?_
        obtain ⟨r91, e91, h⟩ := bnd h
        refine ald C G X (k := 410) kd_410 (ag_s e91).1 dX12_findsWalk_91 ?_
        rw [(ag_s e91).2]
        refine lv_iconst (v := -1) C.1 C.2.1 dX12_findsWalk_92 (by decide) ?_
        refine lv_icmp_ne (tgt := 137) C.1 C.2.1 dX12_findsWalk_93 (by decide) (fun c93 => ?_) (fun c93 => ?_)
        · replace h := ineg c93 h
          refine lv_iinc (v := (x5 + 1)) (lv' := [(5, .int (x5 + 1)), (0, .ref (gB E + 399)), (1, .int x1), (2, .int x2), (3, .int x3), (4, .int x4)]) C.1 C.2.1 dX12_findsWalk_137 hl (k := 5) rfl rfl (by decide) rfl (fun ls hl => ?_)
          refine lv_goto (tgt := 63) C.1 C.2.1 dX12_findsWalk_140 (by decide) ?_
          exact ih X (lv_sub hl [1, 2, 3, 4, 5, 0] rfl) h
        · replace h := ipos c93 h
          refine lv_aload_n C.1 C.2.1 dX12_findsWalk_96 rfl (lv_at hl 0 rfl) ?_
          refine lv_iload C.1 C.2.1 dX12_findsWalk_97 (lv_at hl 4 rfl) ?_
          refine lv_iload C.1 C.2.1 dX12_findsWalk_99 (lv_at hl 5 rfl) ?_
          obtain ⟨r101, e101, h⟩ := bnd h
          refine afI X (runV C G X q_X12_isWay k_1951 kp_68 k_1949 (rcX12 G X kd_399) (c_X12_isWay l E e101) rfl hl.1 rfl (Nat.le_of_ble_eq_true rfl) ⟨Nat.le_of_ble_eq_true rfl, Nat.le_of_ble_eq_true rfl⟩ ⟨Nat.le_of_ble_eq_true rfl, Nat.le_of_ble_eq_true rfl⟩ dX12_findsWalk_101) (fun H locs X => ?_)
          refine lv_if_eq (tgt := 137) C.1 C.2.1 dX12_findsWalk_104 (by decide) (fun c104 => ?_) (fun c104 => ?_)
          · replace h := ipos c104 h
            refine lv_iinc (v := (x5 + 1)) (lv' := [(5, .int (x5 + 1)), (0, .ref (gB E + 399)), (1, .int x1), (2, .int x2), (3, .int x3), (4, .int x4)]) C.1 C.2.1 dX12_findsWalk_137 hl (k := 5) rfl rfl (by decide) rfl (fun ls hl => ?_)
            refine lv_goto (tgt := 63) C.1 C.2.1 dX12_findsWalk_140 (by decide) ?_
            exact ih X (lv_sub hl [1, 2, 3, 4, 5, 0] rfl) h
          · replace h := ineg c104 h
            refine lv_aload_n C.1 C.2.1 dX12_findsWalk_107 rfl (lv_at hl 0 rfl) ?_
            refine gfX12 C G X (k := 399) kd_399 21 (v := .ref (gB E + 409)) rfl rfl (by decide) k_1672 rfl dX12_findsWalk_108 ?_
            refine lv_bipush (v := 9) C.1 C.2.1 dX12_findsWalk_111 (by decide) ?_
            refine lv_iload C.1 C.2.1 dX12_findsWalk_113 (lv_at hl 4 rfl) ?_
            refine lv_imul C.1 C.2.1 dX12_findsWalk_115 ?_
            refine lv_iload C.1 C.2.1 dX12_findsWalk_116 (lv_at hl 5 rfl) ?_
            refine lv_iadd C.1 C.2.1 dX12_findsWalk_118 ?_
            obtain ⟨r119, e119, h⟩ := bnd h
            refine ald C G X (k := 409) kd_409 (ag_s e119).1 dX12_findsWalk_119 ?_
            rw [(ag_s e119).2]
            refine lv_if_le (tgt := 126) C.1 C.2.1 dX12_findsWalk_120 (by decide) (fun c120 => ?_) (fun c120 => ?_)
            · replace h := ipos c120 h
              refine lv_aload_n C.1 C.2.1 dX12_findsWalk_126 rfl (lv_at hl 0 rfl) ?_
              refine gfX12 C G X (k := 399) kd_399 22 (v := .ref (gB E + 410)) rfl rfl (by decide) k_1673 rfl dX12_findsWalk_127 ?_
              refine lv_iload C.1 C.2.1 dX12_findsWalk_130 (lv_at hl 5 rfl) ?_
              refine lv_iload C.1 C.2.1 dX12_findsWalk_132 (lv_at hl 4 rfl) ?_
              obtain ⟨σ134, e134, h⟩ := bnd h
              refine ast C G X (k := 410) kd_410 (au_s e134).1 dX12_findsWalk_134 (fun H locs X => ?_)
              rw [(au_s e134).2] at X
              refine lv_iconst (v := 1) C.1 C.2.1 dX12_findsWalk_135 (by decide) ?_
              refine lv_istore_n (lv' := [(3, .int (1 : Int32)), (0, .ref (gB E + 399)), (1, .int x1), (2, .int x2), (4, .int x4), (5, .int x5)]) C.1 C.2.1 dX12_findsWalk_136 rfl hl (by decide) rfl (fun ls hl => ?_)
              refine lv_iinc (v := (x5 + 1)) (lv' := [(5, .int (x5 + 1)), (3, .int (1 : Int32)), (0, .ref (gB E + 399)), (1, .int x1), (2, .int x2), (4, .int x4)]) C.1 C.2.1 dX12_findsWalk_137 hl (k := 5) rfl rfl (by decide) rfl (fun ls hl => ?_)
              refine lv_goto (tgt := 63) C.1 C.2.1 dX12_findsWalk_140 (by decide) ?_
              exact ih X (lv_sub hl [2, 3, 4, 1, 5, 0] rfl) h
            · replace h := ineg c120 h
              refine lv_goto (tgt := 137) C.1 C.2.1 dX12_findsWalk_123 (by decide) ?_
              refine lv_iinc (v := (x5 + 1)) (lv' := [(5, .int (x5 + 1)), (0, .ref (gB E + 399)), (1, .int x1), (2, .int x2), (3, .int x3), (4, .int x4)]) C.1 C.2.1 dX12_findsWalk_137 hl (k := 5) rfl rfl (by decide) rfl (fun ls hl => ?_)
              refine lv_goto (tgt := 63) C.1 C.2.1 dX12_findsWalk_140 (by decide) ?_
              exact ih X (lv_sub hl [1, 2, 3, 4, 5, 0] rfl) h

set_option maxRecDepth 20000 in
theorem w_X12_findsWalk_49 {r : (Int32 × Mem)} {rc30 : Int32 → Int32 → Int32 → Mem → Option (Int32 × Mem)} (C : Cx p s m args meth c cX12_findsWalk (some .boolean) 6 RX12) (G : Gf E s) (hr30 : ∀ {x1 : Int32} {x2 : Int32} {x3 : Int32} {σ : Mem} {ls : Array Slot} {H : Heap} {locs : List Loc}, Hx E σ s H locs → lv_has ls 6 [(0, .ref (gB E + 399)), (1, .int x1), (2, .int x2), (3, .int x3)] → rc30 x1 x2 x3 σ = some r → W p l e (RM 2) s m args below meth c H locs 0 0 (QI E below args s r.1 r.2) (F0 m 30 ls [])) : ∀ (f : Nat) {x1 : Int32} {x2 : Int32} {x3 : Int32} {x4 : Int32} {σ : Mem} {ls : Array Slot} {H : Heap} {locs : List Loc}, Hx E σ s H locs → lv_has ls 6 [(0, .ref (gB E + 399)), (1, .int x1), (2, .int x2), (3, .int x3), (4, .int x4)] → X12_findsWalk_49 rc30 f x1 x2 x3 x4 σ = some r → W p l e (RM 2) s m args below meth c H locs 0 0 (QI E below args s r.1 r.2) (F0 m 49 ls []) := by
  intro f
  induction f with
  | zero =>
    intro x1 x2 x3 x4 σ ls H locs X hl h
    rw [X12_findsWalk_49] at h
    cases h
  | succ f ih =>
    intro x1 x2 x3 x4 σ ls H locs X hl h
    rw [X12_findsWalk_49] at h
    refine lv_iload C.1 C.2.1 dX12_findsWalk_49 (lv_at hl 4 rfl) ?_
    refine lv_aload_n C.1 C.2.1 dX12_findsWalk_51 rfl (lv_at hl 0 rfl) ?_
    refine gfX12 C G X (k := 399) kd_399 1 (v := .ref (gB E + 400)) rfl rfl (by decide) k_1652 rfl dX12_findsWalk_52 ?_
    refine lv_iconst (v := 3) C.1 C.2.1 dX12_findsWalk_55 (by decide) ?_
    obtain ⟨r56, e56, h⟩ := bnd h
    refine ald C G X (k := 400) kd_400 (ag_s e56).1 dX12_findsWalk_56 ?_
    rw [(ag_s e56).2]
    refine lv_icmp_ge (tgt := 149) C.1 C.2.1 dX12_findsWalk_57 (by decide) (fun c57 => ?_) (fun c57 => ?_)
    · replace h := ipos c57 h
      refine lv_goto (tgt := 30) C.1 C.2.1 dX12_findsWalk_149 (by decide) ?_
      exact hr30 X (lv_sub hl [0, 1, 2, 3] rfl) h
    · replace h := ineg c57 h
      refine lv_iconst (v := 0) C.1 C.2.1 dX12_findsWalk_60 (by decide) ?_
      refine lv_istore (lv' := [(5, .int (0 : Int32)), (0, .ref (gB E + 399)), (1, .int x1), (2, .int x2), (3, .int x3), (4, .int x4)]) C.1 C.2.1 dX12_findsWalk_61 hl (by decide) rfl (fun ls hl => ?_)
      exact w_X12_findsWalk_63 C G hr30 ih FU X (lv_sub hl [1, 2, 3, 4, 5, 0] rfl) h

set_option maxRecDepth 20000 in
theorem w_X12_findsWalk_167 {r : (Int32 × Mem)} (C : Cx p s m args meth c cX12_findsWalk (some .boolean) 6 RX12) (G : Gf E s) : ∀ (f : Nat) {x1 : Int32} {x4 : Int32} {σ : Mem} {ls : Array Slot} {H : Heap} {locs : List Loc}, Hx E σ s H locs → lv_has ls 6 [(0, .ref (gB E + 399)), (1, .int x1), (4, .int x4)] → X12_findsWalk_167 f x1 x4 σ = some r → W p l e (RM 2) s m args below meth c H locs 0 0 (QI E below args s r.1 r.2) (F0 m 167 ls []) := by
  intro f
  induction f with
  | zero =>
    intro x1 x4 σ ls H locs X hl h
    rw [X12_findsWalk_167] at h
    cases h
  | succ f ih =>
    intro x1 x4 σ ls H locs X hl h
    rw [X12_findsWalk_167] at h
    refine lv_iload C.1 C.2.1 dX12_findsWalk_167 (lv_at hl 2 rfl) ?_
    refine lv_iload_n C.1 C.2.1 dX12_findsWalk_169 rfl (lv_at hl 1 rfl) ?_
    refine lv_icmp_eq (tgt := 229) C.1 C.2.1 dX12_findsWalk_170 (by decide) (fun c170 => ?_) (fun c170 => ?_)
    · replace h := ipos c170 h
      refine lv_iconst (v := 1) C.1 C.2.1 dX12_findsWalk_229 (by decide) ?_
      obtain ⟨u230, z230, h⟩ := bnd h
      rw [← Option.some.inj h]
      exact rtZ C X (gb_s z230) dX12_findsWalk_230
    · replace h := ineg c170 h
      refine lv_aload_n C.1 C.2.1 dX12_findsWalk_173 rfl (lv_at hl 0 rfl) ?_
      refine gfX12 C G X (k := 399) kd_399 21 (v := .ref (gB E + 409)) rfl rfl (by decide) k_1672 rfl dX12_findsWalk_174 ?_
      refine lv_bipush (v := 9) C.1 C.2.1 dX12_findsWalk_177 (by decide) ?_
      refine lv_aload_n C.1 C.2.1 dX12_findsWalk_179 rfl (lv_at hl 0 rfl) ?_
      refine gfX12 C G X (k := 399) kd_399 22 (v := .ref (gB E + 410)) rfl rfl (by decide) k_1673 rfl dX12_findsWalk_180 ?_
      refine lv_iload C.1 C.2.1 dX12_findsWalk_183 (lv_at hl 2 rfl) ?_
      obtain ⟨r185, e185, h⟩ := bnd h
      refine ald C G X (k := 410) kd_410 (ag_s e185).1 dX12_findsWalk_185 ?_
      rw [(ag_s e185).2]
      refine lv_imul C.1 C.2.1 dX12_findsWalk_186 ?_
      refine lv_iload C.1 C.2.1 dX12_findsWalk_187 (lv_at hl 2 rfl) ?_
      refine lv_iadd C.1 C.2.1 dX12_findsWalk_189 ?_
      refine lv_dup2_11 C.1 C.2.1 dX12_findsWalk_190 rfl rfl ?_
      obtain ⟨r191, e191, h⟩ := bnd h
      refine ald C G X (k := 409) kd_409 (ag_s e191).1 dX12_findsWalk_191 ?_
      rw [(ag_s e191).2]
      refine lv_iconst (v := 1) C.1 C.2.1 dX12_findsWalk_192 (by decide) ?_
      refine lv_iadd C.1 C.2.1 dX12_findsWalk_193 ?_
      obtain ⟨σ194, e194, h⟩ := bnd h
      refine ast C G X (k := 409) kd_409 (au_s e194).1 dX12_findsWalk_194 (fun H locs X => ?_)
      rw [(au_s e194).2] at X
      refine lv_aload_n C.1 C.2.1 dX12_findsWalk_195 rfl (lv_at hl 0 rfl) ?_
      refine gfX12 C G X (k := 399) kd_399 21 (v := .ref (gB E + 409)) rfl rfl (by decide) k_1672 rfl dX12_findsWalk_196 ?_
      refine lv_bipush (v := 9) C.1 C.2.1 dX12_findsWalk_199 (by decide) ?_
      refine lv_iload C.1 C.2.1 dX12_findsWalk_201 (lv_at hl 2 rfl) ?_
      refine lv_imul C.1 C.2.1 dX12_findsWalk_203 ?_
      refine lv_aload_n C.1 C.2.1 dX12_findsWalk_204 rfl (lv_at hl 0 rfl) ?_
      refine gfX12 C G X (k := 399) kd_399 22 (v := .ref (gB E + 410)) rfl rfl (by decide) k_1673 rfl dX12_findsWalk_205 ?_
      refine lv_iload C.1 C.2.1 dX12_findsWalk_208 (lv_at hl 2 rfl) ?_
      obtain ⟨r210, e210, h⟩ := bnd h
      refine ald C G X (k := 410) kd_410 (ag_s e210).1 dX12_findsWalk_210 ?_
      rw [(ag_s e210).2]
      refine lv_iadd C.1 C.2.1 dX12_findsWalk_211 ?_
      refine lv_dup2_11 C.1 C.2.1 dX12_findsWalk_212 rfl rfl ?_
      obtain ⟨r213, e213, h⟩ := bnd h
      refine ald C G X (k := 409) kd_409 (ag_s e213).1 dX12_findsWalk_213 ?_
      rw [(ag_s e213).2]
      refine lv_iconst (v := 1) C.1 C.2.1 dX12_findsWalk_214 (by decide) ?_
      refine lv_isub C.1 C.2.1 dX12_findsWalk_215 ?_
      obtain ⟨σ216, e216, h⟩ := bnd h
      refine ast C G X (k := 409) kd_409 (au_s e216).1 dX12_findsWalk_216 (fun H locs X => ?_)
      rw [(au_s e216).2] at X
      refine lv_aload_n C.1 C.2.1 dX12_findsWalk_217 rfl (lv_at hl 0 rfl) ?_
      refine gfX12 C G X (k := 399) kd_399 22 (v := .ref (gB E + 410)) rfl rfl (by decide) k_1673 rfl dX12_findsWalk_218 ?_
      refine lv_iload C.1 C.2.1 dX12_findsWalk_221 (lv_at hl 2 rfl) ?_
      obtain ⟨r223, e223, h⟩ := bnd h
      refine ald C G X (k := 410) kd_410 (ag_s e223).1 dX12_findsWalk_223 ?_
      rw [(ag_s e223).2]
      refine lv_istore (lv' := [(4, .int r223), (0, .ref (gB E + 399)), (1, .int x1)]) C.1 C.2.1 dX12_findsWalk_224 hl (by decide) rfl (fun ls hl => ?_)
      refine lv_goto (tgt := 167) C.1 C.2.1 dX12_findsWalk_226 (by decide) ?_
      exact ih X (lv_sub hl [1, 2, 0] rfl) h

set_option maxRecDepth 20000 in
theorem w_X12_findsWalk_152 {r : (Int32 × Mem)} {σ : Mem} {x1 : Int32} {x2 : Int32} {ls : Array Slot} {H : Heap} {locs : List Loc} (C : Cx p s m args meth c cX12_findsWalk (some .boolean) 6 RX12) (G : Gf E s) (X : Hx E σ s H locs) (hl : lv_has ls 6 [(0, .ref (gB E + 399)), (1, .int x1), (2, .int x2)]) (h : X12_findsWalk_152 x1 x2 σ = some r) : W p l e (RM 2) s m args below meth c H locs 0 0 (QI E below args s r.1 r.2) (F0 m 152 ls []) := by
  rw [X12_findsWalk_152] at h
  refine lv_aload_n C.1 C.2.1 dX12_findsWalk_152 rfl (lv_at hl 0 rfl) ?_
  refine gfX12 C G X (k := 399) kd_399 22 (v := .ref (gB E + 410)) rfl rfl (by decide) k_1673 rfl dX12_findsWalk_153 ?_
  refine lv_iload_n C.1 C.2.1 dX12_findsWalk_156 rfl (lv_at hl 2 rfl) ?_
  obtain ⟨r157, e157, h⟩ := bnd h
  refine ald C G X (k := 410) kd_410 (ag_s e157).1 dX12_findsWalk_157 ?_
  rw [(ag_s e157).2]
  refine lv_iconst (v := -1) C.1 C.2.1 dX12_findsWalk_158 (by decide) ?_
  refine lv_icmp_ne (tgt := 164) C.1 C.2.1 dX12_findsWalk_159 (by decide) (fun c159 => ?_) (fun c159 => ?_)
  · replace h := ineg c159 h
    refine lv_iload_n C.1 C.2.1 dX12_findsWalk_164 rfl (lv_at hl 2 rfl) ?_
    refine lv_istore (lv' := [(4, .int x2), (0, .ref (gB E + 399)), (1, .int x1), (2, .int x2)]) C.1 C.2.1 dX12_findsWalk_165 hl (by decide) rfl (fun ls hl => ?_)
    exact w_X12_findsWalk_167 C G FU X (lv_sub hl [1, 2, 0] rfl) h
  · replace h := ipos c159 h
    refine lv_iconst (v := 0) C.1 C.2.1 dX12_findsWalk_162 (by decide) ?_
    obtain ⟨u163, z163, h⟩ := bnd h
    rw [← Option.some.inj h]
    exact rtZ C X (gb_s z163) dX12_findsWalk_163

set_option maxRecDepth 20000 in
theorem w_X12_findsWalk_30 {r : (Int32 × Mem)} (C : Cx p s m args meth c cX12_findsWalk (some .boolean) 6 RX12) (G : Gf E s) : ∀ (f : Nat) {x1 : Int32} {x2 : Int32} {x3 : Int32} {σ : Mem} {ls : Array Slot} {H : Heap} {locs : List Loc}, Hx E σ s H locs → lv_has ls 6 [(0, .ref (gB E + 399)), (1, .int x1), (2, .int x2), (3, .int x3)] → X12_findsWalk_30 f x1 x2 x3 σ = some r → W p l e (RM 2) s m args below meth c H locs 0 0 (QI E below args s r.1 r.2) (F0 m 30 ls []) := by
  intro f
  induction f with
  | zero =>
    intro x1 x2 x3 σ ls H locs X hl h
    rw [X12_findsWalk_30] at h
    cases h
  | succ f ih =>
    intro x1 x2 x3 σ ls H locs X hl h
    rw [X12_findsWalk_30] at h
    refine lv_iload_n C.1 C.2.1 dX12_findsWalk_30 rfl (lv_at hl 3 rfl) ?_
    refine lv_if_eq (tgt := 152) C.1 C.2.1 dX12_findsWalk_31 (by decide) (fun c31 => ?_) (fun c31 => ?_)
    · replace h := ipos c31 h
      exact w_X12_findsWalk_152 C G X (lv_sub hl [0, 1, 2] rfl) h
    · replace h := ineg c31 h
      refine lv_aload_n C.1 C.2.1 dX12_findsWalk_34 rfl (lv_at hl 0 rfl) ?_
      refine gfX12 C G X (k := 399) kd_399 22 (v := .ref (gB E + 410)) rfl rfl (by decide) k_1673 rfl dX12_findsWalk_35 ?_
      refine lv_iload_n C.1 C.2.1 dX12_findsWalk_38 rfl (lv_at hl 2 rfl) ?_
      obtain ⟨r39, e39, h⟩ := bnd h
      refine ald C G X (k := 410) kd_410 (ag_s e39).1 dX12_findsWalk_39 ?_
      rw [(ag_s e39).2]
      refine lv_iconst (v := -1) C.1 C.2.1 dX12_findsWalk_40 (by decide) ?_
      refine lv_icmp_ne (tgt := 152) C.1 C.2.1 dX12_findsWalk_41 (by decide) (fun c41 => ?_) (fun c41 => ?_)
      · replace h := ineg c41 h
        exact w_X12_findsWalk_152 C G X (lv_sub hl [0, 1, 2] rfl) h
      · replace h := ipos c41 h
        refine lv_iconst (v := 0) C.1 C.2.1 dX12_findsWalk_44 (by decide) ?_
        refine lv_istore_n (lv' := [(3, .int (0 : Int32)), (0, .ref (gB E + 399)), (1, .int x1), (2, .int x2)]) C.1 C.2.1 dX12_findsWalk_45 rfl hl (by decide) rfl (fun ls hl => ?_)
        refine lv_iconst (v := 0) C.1 C.2.1 dX12_findsWalk_46 (by decide) ?_
        refine lv_istore (lv' := [(4, .int (0 : Int32)), (3, .int (0 : Int32)), (0, .ref (gB E + 399)), (1, .int x1), (2, .int x2)]) C.1 C.2.1 dX12_findsWalk_47 hl (by decide) rfl (fun ls hl => ?_)
        exact w_X12_findsWalk_49 C G ih FU X (lv_sub hl [2, 3, 4, 1, 0] rfl) h

set_option maxRecDepth 20000 in
theorem w_X12_findsWalk_2 {r : (Int32 × Mem)} (C : Cx p s m args meth c cX12_findsWalk (some .boolean) 6 RX12) (G : Gf E s) : ∀ (f : Nat) {x1 : Int32} {x2 : Int32} {x3 : Int32} {σ : Mem} {ls : Array Slot} {H : Heap} {locs : List Loc}, Hx E σ s H locs → lv_has ls 6 [(0, .ref (gB E + 399)), (1, .int x1), (2, .int x2), (3, .int x3)] → X12_findsWalk_2 f x1 x2 x3 σ = some r → W p l e (RM 2) s m args below meth c H locs 0 0 (QI E below args s r.1 r.2) (F0 m 2 ls []) := by
  intro f
  induction f with
  | zero =>
    intro x1 x2 x3 σ ls H locs X hl h
    rw [X12_findsWalk_2] at h
    cases h
  | succ f ih =>
    intro x1 x2 x3 σ ls H locs X hl h
    rw [X12_findsWalk_2] at h
    refine lv_iload_n C.1 C.2.1 dX12_findsWalk_2 rfl (lv_at hl 3 rfl) ?_
    refine lv_bipush (v := 9) C.1 C.2.1 dX12_findsWalk_3 (by decide) ?_
    refine lv_icmp_ge (tgt := 21) C.1 C.2.1 dX12_findsWalk_5 (by decide) (fun c5 => ?_) (fun c5 => ?_)
    · replace h := ipos c5 h
      refine lv_aload_n C.1 C.2.1 dX12_findsWalk_21 rfl (lv_at hl 0 rfl) ?_
      refine gfX12 C G X (k := 399) kd_399 22 (v := .ref (gB E + 410)) rfl rfl (by decide) k_1673 rfl dX12_findsWalk_22 ?_
      refine lv_iload_n C.1 C.2.1 dX12_findsWalk_25 rfl (lv_at hl 1 rfl) ?_
      refine lv_iload_n C.1 C.2.1 dX12_findsWalk_26 rfl (lv_at hl 1 rfl) ?_
      obtain ⟨σ27, e27, h⟩ := bnd h
      refine ast C G X (k := 410) kd_410 (au_s e27).1 dX12_findsWalk_27 (fun H locs X => ?_)
      rw [(au_s e27).2] at X
      refine lv_iconst (v := 1) C.1 C.2.1 dX12_findsWalk_28 (by decide) ?_
      refine lv_istore_n (lv' := [(3, .int (1 : Int32)), (0, .ref (gB E + 399)), (1, .int x1), (2, .int x2)]) C.1 C.2.1 dX12_findsWalk_29 rfl hl (by decide) rfl (fun ls hl => ?_)
      exact w_X12_findsWalk_30 C G FU X (lv_sub hl [1, 2, 3, 0] rfl) h
    · replace h := ineg c5 h
      refine lv_aload_n C.1 C.2.1 dX12_findsWalk_8 rfl (lv_at hl 0 rfl) ?_
      refine gfX12 C G X (k := 399) kd_399 22 (v := .ref (gB E + 410)) rfl rfl (by decide) k_1673 rfl dX12_findsWalk_9 ?_
      refine lv_iload_n C.1 C.2.1 dX12_findsWalk_12 rfl (lv_at hl 3 rfl) ?_
      refine lv_iconst (v := -1) C.1 C.2.1 dX12_findsWalk_13 (by decide) ?_
      obtain ⟨σ14, e14, h⟩ := bnd h
      refine ast C G X (k := 410) kd_410 (au_s e14).1 dX12_findsWalk_14 (fun H locs X => ?_)
      rw [(au_s e14).2] at X
      refine lv_iinc (v := (x3 + 1)) (lv' := [(3, .int (x3 + 1)), (0, .ref (gB E + 399)), (1, .int x1), (2, .int x2)]) C.1 C.2.1 dX12_findsWalk_15 hl (k := 3) rfl rfl (by decide) rfl (fun ls hl => ?_)
      refine lv_goto (tgt := 2) C.1 C.2.1 dX12_findsWalk_18 (by decide) ?_
      exact ih X (lv_sub hl [1, 2, 3, 0] rfl) h

set_option maxRecDepth 20000 in
theorem w_X12_findsWalk {r : (Int32 × Mem)} {σ : Mem} {x1 : Int32} {x2 : Int32} {ls : Array Slot} {H : Heap} {locs : List Loc} (C : Cx p s m args meth c cX12_findsWalk (some .boolean) 6 RX12) (G : Gf E s) (X : Hx E σ s H locs) (hl : lv_has ls 6 [(0, .ref (gB E + 399)), (1, .int x1), (2, .int x2)]) (h : X12_findsWalk x1 x2 σ = some r) : W p l e (RM 2) s m args below meth c H locs 0 0 (QI E below args s r.1 r.2) (F0 m 0 ls []) := by
  rw [X12_findsWalk] at h
  refine lv_iconst (v := 0) C.1 C.2.1 dX12_findsWalk_0 (by decide) ?_
  refine lv_istore_n (lv' := [(3, .int (0 : Int32)), (0, .ref (gB E + 399)), (1, .int x1), (2, .int x2)]) C.1 C.2.1 dX12_findsWalk_1 rfl hl (by decide) rfl (fun ls hl => ?_)
  exact w_X12_findsWalk_2 C G FU X (lv_sub hl [1, 2, 3, 0] rfl) h

theorem c_X12_findsWalk (l : Launch) (E : GE) {σ : Mem} {x1 : Int32} {x2 : Int32} {r : (Int32 × Mem)} (h : X12_findsWalk x1 x2 σ = some r) : CtI l E yX12_findsWalk cX12_findsWalk 6 .boolean 2 [.ref (gB E + 399), .int x1, .int x2] σ r.1 r.2 := by
  refine Met.ofW (cc := cX12_findsWalk) (maxL := 6) (ret := (some .boolean)) (by decide) rfl ?_
  intro p e s m args below meth c s₁ B hml hv
  obtain ⟨rfl, G, X⟩ := start hv
  have C := cxof B hml
  have hl := lv_entry [.ref (gB E + 399), .int x1, .int x2] (n := 6) (Nat.le_of_ble_eq_true rfl)
  rw [lg_entry_eq]
  generalize (lg_sl [.ref (gB E + 399), .int x1, .int x2] ++ List.replicate (6 - (lg_sl [.ref (gB E + 399), .int x1, .int x2]).length) Slot.unset).toArray = ls at hl ⊢
  exact w_X12_findsWalk C G X hl h

set_option maxRecDepth 20000 in
theorem w_X12_closed_64 {r : (Int32 × Mem)} (C : Cx p s m args meth c cX12_closed (some .int) 4 RX12) (G : Gf E s) : ∀ (f : Nat) {x1 : Int32} {x2 : Int32} {x3 : Int32} {σ : Mem} {ls : Array Slot} {H : Heap} {locs : List Loc}, Hx E σ s H locs → lv_has ls 4 [(0, .ref (gB E + 399)), (1, .int x1), (2, .int x2), (3, .int x3)] → X12_closed_64 f x1 x2 x3 σ = some r → W p l e (RM 3) s m args below meth c H locs 0 0 (QI E below args s r.1 r.2) (F0 m 64 ls []) := by
  intro f
  induction f with
  | zero =>
    intro x1 x2 x3 σ ls H locs X hl h
    rw [X12_closed_64] at h
    cases h
  | succ f ih =>
    intro x1 x2 x3 σ ls H locs X hl h
    rw [X12_closed_64] at h
    refine lv_aload_n C.1 C.2.1 dX12_closed_64 rfl (lv_at hl 0 rfl) ?_
    refine lv_iload_n C.1 C.2.1 dX12_closed_65 rfl (lv_at hl 1 rfl) ?_
    refine lv_iload_n C.1 C.2.1 dX12_closed_66 rfl (lv_at hl 2 rfl) ?_
    obtain ⟨r67, σ67, e67, h⟩ := bnd2 h
    refine afI (r0 := r67) (σ' := σ67) X (runV C G X q_X12_findsWalk k_2129 kp_88 k_2127 (rcX12 G X kd_399) (c_X12_findsWalk l E e67) rfl hl.1 rfl (Nat.le_of_ble_eq_true rfl) ⟨Nat.le_of_ble_eq_true rfl, Nat.le_of_ble_eq_true rfl⟩ ⟨Nat.le_of_ble_eq_true rfl, Nat.le_of_ble_eq_true rfl⟩ dX12_closed_67) (fun H locs X => ?_)
    refine lv_if_eq (tgt := 79) C.1 C.2.1 dX12_closed_70 (by decide) (fun c70 => ?_) (fun c70 => ?_)
    · replace h := ipos c70 h
      refine lv_iload_n C.1 C.2.1 dX12_closed_79 rfl (lv_at hl 3 rfl) ?_
      rw [← Option.some.inj h]
      exact rtI C X dX12_closed_80
    · replace h := ineg c70 h
      refine lv_iinc (v := (x3 + 1)) (lv' := [(3, .int (x3 + 1)), (0, .ref (gB E + 399)), (1, .int x1), (2, .int x2)]) C.1 C.2.1 dX12_closed_73 hl (k := 3) rfl rfl (by decide) rfl (fun ls hl => ?_)
      refine lv_goto (tgt := 64) C.1 C.2.1 dX12_closed_76 (by decide) ?_
      exact ih X (lv_sub hl [1, 2, 3, 0] rfl) h

set_option maxRecDepth 20000 in
theorem w_X12_closed_43 {r : (Int32 × Mem)} (C : Cx p s m args meth c cX12_closed (some .int) 4 RX12) (G : Gf E s) : ∀ (f : Nat) {x1 : Int32} {x2 : Int32} {x3 : Int32} {σ : Mem} {ls : Array Slot} {H : Heap} {locs : List Loc}, Hx E σ s H locs → lv_has ls 4 [(0, .ref (gB E + 399)), (1, .int x1), (2, .int x2), (3, .int x3)] → X12_closed_43 f x1 x2 x3 σ = some r → W p l e (RM 3) s m args below meth c H locs 0 0 (QI E below args s r.1 r.2) (F0 m 43 ls []) := by
  intro f
  induction f with
  | zero =>
    intro x1 x2 x3 σ ls H locs X hl h
    rw [X12_closed_43] at h
    cases h
  | succ f ih =>
    intro x1 x2 x3 σ ls H locs X hl h
    rw [X12_closed_43] at h
    refine lv_iload_n C.1 C.2.1 dX12_closed_43 rfl (lv_at hl 3 rfl) ?_
    refine lv_bipush (v := 81) C.1 C.2.1 dX12_closed_44 (by decide) ?_
    refine lv_icmp_ge (tgt := 62) C.1 C.2.1 dX12_closed_46 (by decide) (fun c46 => ?_) (fun c46 => ?_)
    · replace h := ipos c46 h
      refine lv_iconst (v := 0) C.1 C.2.1 dX12_closed_62 (by decide) ?_
      refine lv_istore_n (lv' := [(3, .int (0 : Int32)), (0, .ref (gB E + 399)), (1, .int x1), (2, .int x2)]) C.1 C.2.1 dX12_closed_63 rfl hl (by decide) rfl (fun ls hl => ?_)
      exact w_X12_closed_64 C G FU X (lv_sub hl [1, 2, 3, 0] rfl) h
    · replace h := ineg c46 h
      refine lv_aload_n C.1 C.2.1 dX12_closed_49 rfl (lv_at hl 0 rfl) ?_
      refine gfX12 C G X (k := 399) kd_399 21 (v := .ref (gB E + 409)) rfl rfl (by decide) k_1672 rfl dX12_closed_50 ?_
      refine lv_iload_n C.1 C.2.1 dX12_closed_53 rfl (lv_at hl 3 rfl) ?_
      refine lv_iconst (v := 0) C.1 C.2.1 dX12_closed_54 (by decide) ?_
      obtain ⟨σ55, e55, h⟩ := bnd h
      refine ast C G X (k := 409) kd_409 (au_s e55).1 dX12_closed_55 (fun H locs X => ?_)
      rw [(au_s e55).2] at X
      refine lv_iinc (v := (x3 + 1)) (lv' := [(3, .int (x3 + 1)), (0, .ref (gB E + 399)), (1, .int x1), (2, .int x2)]) C.1 C.2.1 dX12_closed_56 hl (k := 3) rfl rfl (by decide) rfl (fun ls hl => ?_)
      refine lv_goto (tgt := 43) C.1 C.2.1 dX12_closed_59 (by decide) ?_
      exact ih X (lv_sub hl [1, 2, 3, 0] rfl) h

set_option maxRecDepth 20000 in
theorem w_X12_closed_22 {r : (Int32 × Mem)} {σ : Mem} {x1 : Int32} {x2 : Int32} {y1 : Int32} {ls : Array Slot} {H : Heap} {locs : List Loc} (C : Cx p s m args meth c cX12_closed (some .int) 4 RX12) (G : Gf E s) (X : Hx E σ s H locs) (hl : lv_has ls 4 [(0, .ref (gB E + 399)), (1, .int x1), (2, .int x2)]) (h : X12_closed_22 x1 x2 y1 σ = some r) : W p l e (RM 3) s m args below meth c H locs 0 0 (QI E below args s r.1 r.2) (F0 m 22 ls [.int y1, .ref (gB E + 399)]) := by
  rw [X12_closed_22] at h
  obtain ⟨σ22, e22, h⟩ := bnd h
  refine pfX12 C G X (k := 399) kd_399 0 (x := y1) (ty := .int) rfl rfl (Nat.le_of_ble_eq_true rfl) (by decide) k_1651 rfl rfl (by decide +kernel) rfl rfl dX12_closed_22 (fun H locs X => ?_)
  replace X := pu_x e22 X
  refine lv_aload_n C.1 C.2.1 dX12_closed_25 rfl (lv_at hl 0 rfl) ?_
  refine gfX12 C G X (k := 399) kd_399 0 (v := .int (σ22 399 0)) rfl rfl (by decide) k_1651 rfl dX12_closed_26 ?_
  refine lv_if_le (tgt := 34) C.1 C.2.1 dX12_closed_29 (by decide) (fun c29 => ?_) (fun c29 => ?_)
  · replace h := ipos c29 h
    refine lv_iload_n C.1 C.2.1 dX12_closed_34 rfl (lv_at hl 1 rfl) ?_
    refine lv_iload_n C.1 C.2.1 dX12_closed_35 rfl (lv_at hl 2 rfl) ?_
    refine lv_icmp_ne (tgt := 41) C.1 C.2.1 dX12_closed_36 (by decide) (fun c36 => ?_) (fun c36 => ?_)
    · replace h := ineg c36 h
      refine lv_iconst (v := 0) C.1 C.2.1 dX12_closed_41 (by decide) ?_
      refine lv_istore_n (lv' := [(3, .int (0 : Int32)), (0, .ref (gB E + 399)), (1, .int x1), (2, .int x2)]) C.1 C.2.1 dX12_closed_42 rfl hl (by decide) rfl (fun ls hl => ?_)
      exact w_X12_closed_43 C G FU X (lv_sub hl [1, 2, 3, 0] rfl) h
    · replace h := ipos c36 h
      refine lv_iconst (v := -1) C.1 C.2.1 dX12_closed_39 (by decide) ?_
      rw [← Option.some.inj h]
      exact rtI C X dX12_closed_40
  · replace h := ineg c29 h
    refine lv_iconst (v := 0) C.1 C.2.1 dX12_closed_32 (by decide) ?_
    rw [← Option.some.inj h]
    exact rtI C X dX12_closed_33

set_option maxRecDepth 20000 in
theorem w_X12_closed_17 {r : (Int32 × Mem)} {σ : Mem} {x1 : Int32} {x2 : Int32} {ls : Array Slot} {H : Heap} {locs : List Loc} (C : Cx p s m args meth c cX12_closed (some .int) 4 RX12) (G : Gf E s) (X : Hx E σ s H locs) (hl : lv_has ls 4 [(0, .ref (gB E + 399)), (1, .int x1), (2, .int x2)]) (h : X12_closed_17 x1 x2 σ = some r) : W p l e (RM 3) s m args below meth c H locs 0 0 (QI E below args s r.1 r.2) (F0 m 17 ls [.ref (gB E + 399)]) := by
  rw [X12_closed_17] at h
  refine lv_iconst (v := 1) C.1 C.2.1 dX12_closed_17 (by decide) ?_
  refine lv_goto (tgt := 22) C.1 C.2.1 dX12_closed_18 (by decide) ?_
  exact w_X12_closed_22 C G X (lv_sub hl [0, 1, 2] rfl) h

set_option maxRecDepth 20000 in
theorem w_X12_closed {r : (Int32 × Mem)} {σ : Mem} {x1 : Int32} {x2 : Int32} {ls : Array Slot} {H : Heap} {locs : List Loc} (C : Cx p s m args meth c cX12_closed (some .int) 4 RX12) (G : Gf E s) (X : Hx E σ s H locs) (hl : lv_has ls 4 [(0, .ref (gB E + 399)), (1, .int x1), (2, .int x2)]) (h : X12_closed x1 x2 σ = some r) : W p l e (RM 3) s m args below meth c H locs 0 0 (QI E below args s r.1 r.2) (F0 m 0 ls []) := by
  rw [X12_closed] at h
  refine lv_aload_n C.1 C.2.1 dX12_closed_0 rfl (lv_at hl 0 rfl) ?_
  refine lv_aload_n C.1 C.2.1 dX12_closed_1 rfl (lv_at hl 0 rfl) ?_
  refine lv_iload_n C.1 C.2.1 dX12_closed_2 rfl (lv_at hl 1 rfl) ?_
  obtain ⟨r3, e3, h⟩ := bnd h
  refine afI X (runV C G X q_X12_isPane k_1891 kp_54 k_1889 (rcX12 G X kd_399) (c_X12_isPane l E e3) rfl hl.1 rfl (Nat.le_of_ble_eq_true rfl) ⟨Nat.le_of_ble_eq_true rfl, Nat.le_of_ble_eq_true rfl⟩ ⟨Nat.le_of_ble_eq_true rfl, Nat.le_of_ble_eq_true rfl⟩ dX12_closed_3) (fun H locs X => ?_)
  refine lv_if_eq (tgt := 17) C.1 C.2.1 dX12_closed_6 (by decide) (fun c6 => ?_) (fun c6 => ?_)
  · replace h := ipos c6 h
    exact w_X12_closed_17 C G X (lv_sub hl [0, 1, 2] rfl) h
  · replace h := ineg c6 h
    refine lv_aload_n C.1 C.2.1 dX12_closed_9 rfl (lv_at hl 0 rfl) ?_
    refine lv_iload_n C.1 C.2.1 dX12_closed_10 rfl (lv_at hl 2 rfl) ?_
    obtain ⟨r11, e11, h⟩ := bnd h
    refine afI X (runV C G X q_X12_isPane k_1891 kp_54 k_1889 (rcX12 G X kd_399) (c_X12_isPane l E e11) rfl hl.1 rfl (Nat.le_of_ble_eq_true rfl) ⟨Nat.le_of_ble_eq_true rfl, Nat.le_of_ble_eq_true rfl⟩ ⟨Nat.le_of_ble_eq_true rfl, Nat.le_of_ble_eq_true rfl⟩ dX12_closed_11) (fun H locs X => ?_)
    refine lv_if_ne (tgt := 21) C.1 C.2.1 dX12_closed_14 (by decide) (fun c14 => ?_) (fun c14 => ?_)
    · replace h := ineg c14 h
      refine lv_iconst (v := 0) C.1 C.2.1 dX12_closed_21 (by decide) ?_
      exact w_X12_closed_22 C G X (lv_sub hl [0, 1, 2] rfl) h
    · replace h := ipos c14 h
      exact w_X12_closed_17 C G X (lv_sub hl [0, 1, 2] rfl) h

theorem c_X12_closed (l : Launch) (E : GE) {σ : Mem} {x1 : Int32} {x2 : Int32} {r : (Int32 × Mem)} (h : X12_closed x1 x2 σ = some r) : CtI l E yX12_closed cX12_closed 4 .int 3 [.ref (gB E + 399), .int x1, .int x2] σ r.1 r.2 := by
  refine Met.ofW (cc := cX12_closed) (maxL := 4) (ret := (some .int)) (by decide) rfl ?_
  intro p e s m args below meth c s₁ B hml hv
  obtain ⟨rfl, G, X⟩ := start hv
  have C := cxof B hml
  have hl := lv_entry [.ref (gB E + 399), .int x1, .int x2] (n := 4) (Nat.le_of_ble_eq_true rfl)
  rw [lg_entry_eq]
  generalize (lg_sl [.ref (gB E + 399), .int x1, .int x2] ++ List.replicate (4 - (lg_sl [.ref (gB E + 399), .int x1, .int x2]).length) Slot.unset).toArray = ls at hl ⊢
  exact w_X12_closed C G X hl h

end WALK

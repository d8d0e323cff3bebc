def X12_read_106 (rc23 : Int32 → Int32 → Int32 → Mem → Option (Int32 × Mem)) (x1 : Int32) (x3 : Int32) (σ : Mem) : Option (Int32 × Mem) :=
  rc23 x1 (0 : Int32) x3 σ
def X12_read_80 (rc23 : Int32 → Int32 → Int32 → Mem → Option (Int32 × Mem)) (x1 : Int32) (x2 : Int32) (x3 : Int32) (σ : Mem) : Option (Int32 × Mem) :=
  bd (X12_skip σ) fun σ84 =>
  if (σ84 399 12) = (-1 : Int32) then
    if (σ84 399 11) = (σ84 399 10) then
      X12_read_106 rc23 x1 (x3 + 1) σ84
    else
      bd2 (X12_isSign (59 : Int32) σ84) fun r114 σ114 =>
      if r114 = 0 then
        bd (X12_wrong (σ114 399 11) σ114) fun σ138 =>
        rc23 x1 x2 (x3 + 1) σ138
      else
        bd (pu σ114 399 11 ((σ114 399 11) + (1 : Int32))) fun σ127 =>
        rc23 x1 x2 (x3 + 1) σ127
  else
    X12_read_106 rc23 x1 (x3 + 1) σ84
def X12_read_51 (rc23 : Int32 → Int32 → Int32 → Mem → Option (Int32 × Mem)) (x1 : Int32) (x2 : Int32) (x3 : Int32) (y0 : Int32) (y1 : Int32) (σ : Mem) : Option (Int32 × Mem) :=
  if y0 = y1 then
    bd (X12_wrong (σ 399 11) σ) fun σ59 =>
    X12_read_80 rc23 x1 x2 x3 σ59
  else
    if x1 = 0 then
      bd (X12_streetLine σ) fun σ77 =>
      X12_read_80 rc23 x1 x2 x3 σ77
    else
      bd (X12_lawLine σ) fun σ70 =>
      X12_read_80 rc23 x1 x2 x3 σ70
def X12_read_23 : Nat → Int32 → Int32 → Int32 → Mem → Option (Int32 × Mem)
  | 0, _, _, _, _ => none
  | f + 1, x1, x2, x3, σ =>
    if x2 = 0 then
      some (x3, σ)
    else
      if (σ 399 12) = (-1 : Int32) then
        bd (X12_skip σ) fun σ36 =>
        if x1 = 0 then
          X12_read_51 (X12_read_23 f) x1 x2 x3 x3 (14 : Int32) σ36
        else
          X12_read_51 (X12_read_23 f) x1 x2 x3 x3 (12 : Int32) σ36
      else
        some (x3, σ)
def X12_read_20 (x1 : Int32) (y0 : Int32) (σ : Mem) : Option (Int32 × Mem) :=
  X12_read_23 FU x1 y0 (0 : Int32) σ
def X12_read (x1 : Int32) (σ : Mem) : Option (Int32 × Mem) :=
  bd (X12_skip σ) fun σ1 =>
  if (σ1 399 10) ≤ (σ1 399 11) then
    X12_read_20 x1 (0 : Int32) σ1
  else
    X12_read_20 x1 (1 : Int32) σ1
def X12_putsAside_2 : Nat → Int32 → Mem → Option Mem
  | 0, _, _ => none
  | f + 1, x1, σ =>
    if (488 : Int32) ≤ x1 then
      some σ
    else
      bd (ag σ 400 x1) fun r19 =>
      bd (au σ 402 x1 r19) fun σ20 =>
      X12_putsAside_2 f (x1 + 1) σ20
def X12_putsAside (σ : Mem) : Option Mem :=
  X12_putsAside_2 FU (0 : Int32) σ
def X12_comesBack_2 : Nat → Int32 → Mem → Option Mem
  | 0, _, _ => none
  | f + 1, x1, σ =>
    if (488 : Int32) ≤ x1 then
      some σ
    else
      bd (ag σ 402 x1) fun r19 =>
      bd (au σ 400 x1 r19) fun σ20 =>
      X12_comesBack_2 f (x1 + 1) σ20
def X12_comesBack (σ : Mem) : Option Mem :=
  X12_comesBack_2 FU (0 : Int32) σ
def X12_street_43 (y1 : Int32) (σ : Mem) : Option (Int32 × Mem) :=
  bd (pu σ 399 0 y1) fun σ43 =>
  if (σ43 399 0) ≤ 0 then
    bd (ag σ43 400 (0 : Int32)) fun r65 =>
    bd (au σ43 400 (0 : Int32) (r65 + (1 : Int32))) fun σ68 =>
    bd (pu σ68 399 6 (0 : Int32)) fun σ71 =>
    bd (ag σ71 400 (0 : Int32)) fun r79 =>
    some (r79, σ71)
  else
    bd (X12_comesBack σ43) fun σ54 =>
    some ((0 : Int32), σ54)
def X12_street (σ : Mem) : Option (Int32 × Mem) :=
  bd (X12_putsAside σ) fun σ1 =>
  bd (X12_begins σ1) fun σ5 =>
  bd2 (X12_read (0 : Int32) σ5) fun r10 σ10 =>
  if (σ10 399 12) = (-1 : Int32) then
    bd (ag σ10 400 (0 : Int32)) fun r32 =>
    if r32 = (12 : Int32) then
      X12_street_43 (2 : Int32) σ10
    else
      X12_street_43 (0 : Int32) σ10
  else
    X12_street_43 (1 : Int32) σ10
def X12_law_55 : Nat → Int32 → Int32 → Mem → Option (Int32 × Mem)
  | 0, _, _, _ => none
  | f + 1, x1, x2, σ =>
    if (σ 399 10) ≤ x2 then
      bd (pu σ 399 6 (0 : Int32)) fun σ87 =>
      some (x1, σ87)
    else
      bd (ag σ 404 x2) fun r77 =>
      bd (au σ 400 ((488 : Int32) + x2) r77) fun σ78 =>
      X12_law_55 f x1 (x2 + 1) σ78
def X12_law_24 (x1 : Int32) (y1 : Int32) (σ : Mem) : Option (Int32 × Mem) :=
  bd (pu σ 399 0 y1) fun σ24 =>
  if (σ24 399 0) ≤ 0 then
    bd (au σ24 400 (1 : Int32) x1) fun σ42 =>
    bd (au σ42 400 (2 : Int32) (σ42 399 10)) fun σ52 =>
    X12_law_55 FU x1 (0 : Int32) σ52
  else
    some ((0 : Int32), σ24)
def X12_law (σ : Mem) : Option (Int32 × Mem) :=
  bd (X12_begins σ) fun σ1 =>
  bd2 (X12_read (1 : Int32) σ1) fun r6 σ6 =>
  if (σ6 399 12) = (-1 : Int32) then
    X12_law_24 r6 (0 : Int32) σ6
  else
    X12_law_24 r6 (1 : Int32) σ6
def X12_fault (σ : Mem) : Option (Int32 × Mem) :=
  bd (pu σ 399 0 (0 : Int32)) fun σ2 =>
  some ((σ2 399 12), σ2)
def X12_likesOwner (σ : Mem) (x1 : Int32) (x2 : Int32) : Option Int32 :=
  bd (X12_of σ x2 (2 : Int32)) fun r3 =>
  if r3 = (-1 : Int32) then
    some ((5 : Int32))
  else
    bd (X12_liking σ x1 r3) fun r19 =>
    some (r19)
def X12_asks_138 (x4 : Int32) (y1 : Int32) (σ : Mem) : Option Mem :=
  bd (pu σ 399 10 y1) fun σ138 =>
  bd (pu σ138 399 11 (0 : Int32)) fun σ143 =>
  bd (pu σ143 399 13 (0 : Int32)) fun σ148 =>
  bd2 (X12_read (1 : Int32) σ148) fun r153 σ153 =>
  bd (pu σ153 399 12 x4) fun σ161 =>
  some σ161
def X12_asks_96 (y1 : Int32) (σ : Mem) : Option Mem :=
  bd (gb y1) fun _ =>
  bd (pu σ 399 15 y1) fun σ96 =>
  bd (pu σ96 399 12 (-1 : Int32)) fun σ107 =>
  bd (pu σ107 399 9 (488 : Int32)) fun σ114 =>
  bd (ag σ114 400 (1 : Int32)) fun r123 =>
  if (1 : Int32) ≤ r123 then
    bd (ag σ114 400 (2 : Int32)) fun r137 =>
    X12_asks_138 (σ96 399 12) r137 σ114
  else
    X12_asks_138 (σ96 399 12) (0 : Int32) σ114
def X12_asks (x1 : Int32) (x2 : Int32) (x3 : Int32) (σ : Mem) : Option Mem :=
  bd (pu σ 399 16 x3) fun σ2 =>
  bd (gb (0 : Int32)) fun _ =>
  bd (pu σ2 399 17 (0 : Int32)) fun σ7 =>
  bd (au σ7 405 (0 : Int32) x1) fun σ16 =>
  bd (au σ16 405 (1 : Int32) x2) fun σ23 =>
  bd (X12_of σ23 x2 (0 : Int32)) fun r32 =>
  bd (au σ23 405 (2 : Int32) r32) fun σ35 =>
  bd (X12_of σ35 x2 (3 : Int32)) fun r44 =>
  bd (au σ35 405 (3 : Int32) r44) fun σ47 =>
  bd (X12_ofWalker σ47 x1 (1 : Int32)) fun r56 =>
  bd (au σ47 405 (4 : Int32) r56) fun σ59 =>
  bd (au σ59 405 (5 : Int32) x3) fun σ66 =>
  bd (ag σ66 400 (5 : Int32)) fun r78 =>
  bd (au σ66 405 (6 : Int32) r78) fun σ79 =>
  bd (X12_of σ79 x2 (2 : Int32)) fun r84 =>
  if r84 = (-1 : Int32) then
    X12_asks_96 (0 : Int32) σ79
  else
    X12_asks_96 (1 : Int32) σ79
def X12_wouldLight (x1 : Int32) (x2 : Int32) (x3 : Int32) (σ : Mem) : Option (Int32 × Mem) :=
  bd (X12_ofWalker σ x1 (1 : Int32)) fun r3 =>
  if r3 = 0 then
    bd (gb (0 : Int32)) fun _ =>
    some ((0 : Int32), σ)
  else
    bd (X12_of σ x2 (1 : Int32)) fun r12 =>
    if r12 = (1 : Int32) then
      bd (gb (0 : Int32)) fun _ =>
      some ((0 : Int32), σ)
    else
      bd (X12_of σ x2 (0 : Int32)) fun r22 =>
      if r22 = 0 then
        bd (gb (0 : Int32)) fun _ =>
        some ((0 : Int32), σ)
      else
        bd (X12_of σ x2 (2 : Int32)) fun r31 =>
        if r31 = x1 then
          bd (gb (0 : Int32)) fun _ =>
          some ((0 : Int32), σ)
        else
          bd (X12_asks x1 x2 x3 σ) fun σ44 =>
          if (σ44 399 16) < (5 : Int32) then
            bd (gb (0 : Int32)) fun _ =>
            some ((0 : Int32), σ44)
          else
            if (σ44 399 17) = 0 then
              bd (gb (1 : Int32)) fun _ =>
              some ((1 : Int32), σ44)
            else
              bd (gb (0 : Int32)) fun _ =>
              some ((0 : Int32), σ44)
def X12_doesLight (x1 : Int32) (x2 : Int32) (σ : Mem) : Option (Int32 × Mem) :=
  bd (X12_likesOwner σ x1 x2) fun r6 =>
  bd2 (X12_wouldLight x1 x2 r6 σ) fun r9 σ9 =>
  bd (gb r9) fun _ =>
  some (r9, σ9)
def X12_draw (x1 : Int32) (σ : Mem) : Option (Int32 × Mem) :=
  bd (ag σ 400 (10 : Int32)) fun r14 =>
  bd (au σ 400 (10 : Int32) (((1103515245 : Int32) * r14) + (12345 : Int32))) fun σ20 =>
  bd (ag σ20 400 (10 : Int32)) fun r27 =>
  bd (gz x1) fun _ =>
  some (((((r27.toUInt32 >>> ((16 : Int32).toUInt32 &&& Int32.toUInt32 31)).toInt32) &&& (32767 : Int32)) - (((r27.toUInt32 >>> ((16 : Int32).toUInt32 &&& Int32.toUInt32 31)).toInt32) &&& (32767 : Int32)) / x1 * x1), σ20)
def X12_logs_5 : Nat → Int32 → Int32 → Int32 → Int32 → Mem → Option Mem
  | 0, _, _, _, _, _ => none
  | f + 1, x1, x2, x3, x4, σ =>
    if x4 < (5 : Int32) then
      bd (ag σ 400 (6 : Int32)) fun r54 =>
      bd (au σ 400 (188 : Int32) r54) fun σ55 =>
      bd (ag σ55 400 (5 : Int32)) fun r68 =>
      bd (au σ55 400 (189 : Int32) r68) fun σ69 =>
      bd (au σ69 400 (190 : Int32) x1) fun σ78 =>
      bd (au σ78 400 (191 : Int32) x2) fun σ87 =>
      bd (au σ87 400 (192 : Int32) x3) fun σ96 =>
      bd (ag σ96 400 (9 : Int32)) fun r111 =>
      bd (X12_lesser σ96 (60 : Int32) (r111 + (1 : Int32))) fun r114 =>
      bd (au σ96 400 (9 : Int32) r114) fun σ117 =>
      some σ117
    else
      bd (ag σ 400 (((188 : Int32) + x4) - (5 : Int32))) fun r33 =>
      bd (au σ 400 ((188 : Int32) + x4) r33) fun σ34 =>
      X12_logs_5 f x1 x2 x3 (x4 + (-1)) σ34
def X12_logs (x1 : Int32) (x2 : Int32) (x3 : Int32) (σ : Mem) : Option Mem :=
  X12_logs_5 FU x1 x2 x3 (299 : Int32) σ
def X12_steps_41 : Nat → Int32 → Int32 → Int32 → Int32 → Int32 → Int32 → Mem → Option Mem
  | 0, _, _, _, _, _, _, _ => none
  | f + 1, x1, x2, x3, x4, x5, x6, σ =>
    if x6 < 0 then
      bd (au σ 400 (((128 : Int32) + ((4 : Int32) * x1)) + (0 : Int32)) x5) fun σ100 =>
      if x5 = x2 then
        bd (au σ100 400 (((128 : Int32) + ((4 : Int32) * x1)) + (2 : Int32)) (-1 : Int32)) fun σ121 =>
        some σ121
      else
        some σ100
    else
      if x4 ≤ 0 then
        X12_steps_41 f x1 x2 x3 x4 x5 (x6 + (-1)) σ
      else
        bd (X12_isWay σ x3 x6) fun r55 =>
        if r55 = 0 then
          X12_steps_41 f x1 x2 x3 x4 x5 (x6 + (-1)) σ
        else
          bd (X12_farOf σ x6 x2) fun r65 =>
          if r65 = (x4 - (1 : Int32)) then
            X12_steps_41 f x1 x2 x3 x4 x6 (x6 + (-1)) σ
          else
            X12_steps_41 f x1 x2 x3 x4 x5 (x6 + (-1)) σ
def X12_steps (x1 : Int32) (σ : Mem) : Option Mem :=
  bd (X12_ofWalker σ x1 (2 : Int32)) fun r3 =>
  bd (X12_ofWalker σ x1 (0 : Int32)) fun r10 =>
  if r3 = (-1 : Int32) then
    some σ
  else
    bd (X12_farOf σ r10 r3) fun r23 =>
    bd (ag σ 400 (3 : Int32)) fun r36 =>
    X12_steps_41 FU x1 r3 r10 r23 r10 (r36 - (1 : Int32)) σ
def X12_kindles_104 (x1 : Int32) (x2 : Int32) (x3 : Int32) (σ : Mem) : Option Mem :=
  bd (X12_logs x3 x2 x1 σ) fun σ108 =>
  some σ108
def X12_kindles (x1 : Int32) (x2 : Int32) (x3 : Int32) (σ : Mem) : Option Mem :=
  bd (X12_lays x2 (1 : Int32) (1 : Int32) σ) fun σ4 =>
  bd (X12_lays x2 (3 : Int32) (0 : Int32) σ4) fun σ11 =>
  bd (ag σ11 400 (((128 : Int32) + ((4 : Int32) * x1)) + (1 : Int32))) fun r28 =>
  bd (au σ11 400 (((128 : Int32) + ((4 : Int32) * x1)) + (1 : Int32)) (r28 - (1 : Int32))) fun σ31 =>
  bd (X12_ofWalker σ31 x1 (3 : Int32)) fun r51 =>
  bd (X12_lesser σ31 (999 : Int32) (r51 + (1 : Int32))) fun r56 =>
  bd (au σ31 400 (((128 : Int32) + ((4 : Int32) * x1)) + (3 : Int32)) r56) fun σ59 =>
  bd (X12_of σ59 x2 (2 : Int32)) fun r63 =>
  if r63 = (-1 : Int32) then
    X12_kindles_104 x1 x2 x3 σ59
  else
    bd (X12_liking σ59 r63 x1) fun r95 =>
    bd (X12_lesser σ59 (9 : Int32) (r95 + (1 : Int32))) fun r100 =>
    bd (au σ59 400 (((152 : Int32) + ((6 : Int32) * r63)) + x1) r100) fun σ103 =>
    X12_kindles_104 x1 x2 x3 σ103
def X12_burns_51 (x1 : Int32) (σ : Mem) : Option Mem :=
  bd (X12_of σ x1 (1 : Int32)) fun r54 =>
  if r54 = 0 then
    bd (X12_of σ x1 (3 : Int32)) fun r68 =>
    bd (X12_lesser σ (99 : Int32) (r68 + (1 : Int32))) fun r73 =>
    bd (X12_lays x1 (3 : Int32) r73 σ) fun σ76 =>
    some σ76
  else
    some σ
def X12_burns (x1 : Int32) (σ : Mem) : Option Mem :=
  bd (X12_of σ x1 (1 : Int32)) fun r3 =>
  if r3 = (1 : Int32) then
    bd (X12_of σ x1 (0 : Int32)) fun r17 =>
    bd (X12_greater σ (0 : Int32) (r17 - (1 : Int32))) fun r22 =>
    bd (X12_lays x1 (0 : Int32) r22 σ) fun σ25 =>
    bd (X12_of σ25 x1 (0 : Int32)) fun r31 =>
    if r31 = 0 then
      bd (X12_lays x1 (1 : Int32) (0 : Int32) σ25) fun σ41 =>
      bd (X12_logs (2 : Int32) x1 (-1 : Int32) σ41) fun σ48 =>
      X12_burns_51 x1 σ48
    else
      X12_burns_51 x1 σ25
  else
    X12_burns_51 x1 σ
def X12_passes_119 : Nat → Int32 → Int32 → Mem → Option (Int32 × Mem)
  | 0, _, _, _ => none
  | f + 1, x2, x3, σ =>
    bd (ag σ 400 (3 : Int32)) fun r125 =>
    if r125 ≤ x3 then
      bd (ag σ 400 (5 : Int32)) fun r146 =>
      bd (au σ 400 (5 : Int32) (r146 + (1 : Int32))) fun σ149 =>
      bd (ag σ149 400 (5 : Int32)) fun r155 =>
      if r155 = (24 : Int32) then
        bd (au σ149 400 (5 : Int32) (0 : Int32)) fun σ167 =>
        bd (ag σ167 400 (6 : Int32)) fun r183 =>
        bd (X12_lesser σ167 (9999 : Int32) (r183 + (1 : Int32))) fun r186 =>
        bd (au σ167 400 (6 : Int32) r186) fun σ189 =>
        some (x2, σ189)
      else
        some (x2, σ149)
    else
      bd (X12_burns x3 σ) fun σ131 =>
      X12_passes_119 f x2 (x3 + 1) σ131
def X12_passes_69 : Nat → Int32 → Int32 → Mem → Option (Int32 × Mem)
  | 0, _, _, _ => none
  | f + 1, x2, x3, σ =>
    bd (ag σ 400 (4 : Int32)) fun r75 =>
    if r75 ≤ x3 then
      X12_passes_119 FU x2 (0 : Int32) σ
    else
      bd (X12_ofWalker σ x3 (0 : Int32)) fun r84 =>
      bd2 (X12_doesLight x3 r84 σ) fun r87 σ87 =>
      if r87 = 0 then
        X12_passes_69 f x2 (x3 + 1) σ87
      else
        bd (X12_ofWalker σ87 x3 (0 : Int32)) fun r101 =>
        bd (X12_kindles x3 r101 (0 : Int32) σ87) fun σ105 =>
        X12_passes_69 f (x2 + 1) (x3 + 1) σ105
def X12_passes_65 (σ : Mem) : Option (Int32 × Mem) :=
  X12_passes_69 FU (0 : Int32) (0 : Int32) σ
def X12_passes_34 : Nat → Int32 → Mem → Option (Int32 × Mem)
  | 0, _, _ => none
  | f + 1, x2, σ =>
    bd (ag σ 400 (4 : Int32)) fun r40 =>
    if r40 ≤ x2 then
      X12_passes_65 σ
    else
      bd (ag σ 400 (8 : Int32)) fun r50 =>
      if r50 = 0 then
        bd (X12_steps x2 σ) fun σ56 =>
        X12_passes_34 f (x2 + 1) σ56
      else
        X12_passes_65 σ
def X12_passes_31 (y1 : Int32) (y2 : Int32) (σ : Mem) : Option (Int32 × Mem) :=
  bd (au σ 400 y1 y2) fun σ31 =>
  X12_passes_34 FU (0 : Int32) σ31
def X12_passes_30 (y1 : Int32) (σ : Mem) : Option (Int32 × Mem) :=
  X12_passes_31 y1 (0 : Int32) σ
def X12_passes (x1 : Int32) (σ : Mem) : Option (Int32 × Mem) :=
  if x1 = 0 then
    X12_passes_30 (8 : Int32) σ
  else
    bd2 (X12_draw (100 : Int32) σ) fun r13 σ13 =>
    bd (ag σ13 400 (7 : Int32)) fun r22 =>
    if r22 ≤ r13 then
      X12_passes_30 (8 : Int32) σ13
    else
      X12_passes_31 (8 : Int32) (1 : Int32) σ13
def X12_goes_5 : Nat → Int32 → Int32 → Int32 → Int32 → Mem → Option (Int32 × Mem)
  | 0, _, _, _, _, _ => none
  | f + 1, x1, x2, x3, x4, σ =>
    if x1 ≤ x4 then
      some (x3, σ)
    else
      bd2 (X12_passes x2 σ) fun r14 σ14 =>
      X12_goes_5 f x1 x2 (x3 + r14) (x4 + 1) σ14
def X12_goes (x1 : Int32) (x2 : Int32) (σ : Mem) : Option (Int32 × Mem) :=
  X12_goes_5 FU x1 x2 (0 : Int32) (0 : Int32) σ
def X12_burning_4 (σ : Mem) : Nat → Int32 → Int32 → Option Int32
  | 0, _, _ => none
  | f + 1, x1, x2 =>
    bd (ag σ 400 (3 : Int32)) fun r10 =>
    if r10 ≤ x2 then
      some (x1)
    else
      bd (X12_of σ x2 (1 : Int32)) fun r18 =>
      X12_burning_4 σ f (x1 ||| (r18 <<< (x2 &&& 31))) (x2 + 1)
def X12_burning (σ : Mem) : Option Int32 :=
  X12_burning_4 σ FU (0 : Int32) (0 : Int32)
def X12_oilOfAll_4 (σ : Mem) : Nat → Int32 → Int32 → Option Int32
  | 0, _, _ => none
  | f + 1, x1, x2 =>
    bd (ag σ 400 (3 : Int32)) fun r10 =>
    if r10 ≤ x2 then
      some (x1)
    else
      bd (X12_of σ x2 (0 : Int32)) fun r18 =>
      X12_oilOfAll_4 σ f (x1 + r18) (x2 + 1)
def X12_oilOfAll (σ : Mem) : Option Int32 :=
  X12_oilOfAll_4 σ FU (0 : Int32) (0 : Int32)
def X12_litOfAll_4 (σ : Mem) : Nat → Int32 → Int32 → Option Int32
  | 0, _, _ => none
  | f + 1, x1, x2 =>
    bd (ag σ 400 (4 : Int32)) fun r10 =>
    if r10 ≤ x2 then
      some (x1)
    else
      bd (X12_ofWalker σ x2 (3 : Int32)) fun r18 =>
      X12_litOfAll_4 σ f (x1 + r18) (x2 + 1)
def X12_litOfAll (σ : Mem) : Option Int32 :=
  X12_litOfAll_4 σ FU (0 : Int32) (0 : Int32)
def X12_lighters_61 (rc5 : Int32 → Int32 → Int32 → Int32 → Mem → Option (Int32 × Mem)) (x1 : Int32) (x2 : Int32) (x4 : Int32) (y0 : Int32) (y1 : Int32) (σ : Mem) : Option (Int32 × Mem) :=
  rc5 x1 x2 (y0 ||| y1) (x4 + 1) σ
def X12_lighters_53 (rc5 : Int32 → Int32 → Int32 → Int32 → Mem → Option (Int32 × Mem)) (x1 : Int32) (x2 : Int32) (x4 : Int32) (y0 : Int32) (σ : Mem) : Option (Int32 × Mem) :=
  X12_lighters_61 rc5 x1 x2 x4 y0 ((1 : Int32) <<< (x4 &&& 31)) σ
def X12_lighters_60 (rc5 : Int32 → Int32 → Int32 → Int32 → Mem → Option (Int32 × Mem)) (x1 : Int32) (x2 : Int32) (x4 : Int32) (y0 : Int32) (σ : Mem) : Option (Int32 × Mem) :=
  X12_lighters_61 rc5 x1 x2 x4 y0 (0 : Int32) σ
def X12_lighters_5 : Nat → Int32 → Int32 → Int32 → Int32 → Mem → Option (Int32 × Mem)
  | 0, _, _, _, _, _ => none
  | f + 1, x1, x2, x3, x4, σ =>
    bd (ag σ 400 (4 : Int32)) fun r12 =>
    if r12 ≤ x4 then
      some (x3, σ)
    else
      bd2 (X12_doesLight x4 x1 σ) fun r21 σ21 =>
      if r21 = 0 then
        if x2 = 0 then
          X12_lighters_60 (X12_lighters_5 f) x1 x2 x4 x3 σ21
        else
          bd (X12_of σ21 x1 (2 : Int32)) fun r34 =>
          if r34 = (-1 : Int32) then
            X12_lighters_60 (X12_lighters_5 f) x1 x2 x4 x3 σ21
          else
            bd2 (X12_wouldLight x4 x1 (9 : Int32) σ21) fun r47 σ47 =>
            if r47 = 0 then
              X12_lighters_60 (X12_lighters_5 f) x1 x2 x4 x3 σ47
            else
              X12_lighters_53 (X12_lighters_5 f) x1 x2 x4 x3 σ47
      else
        X12_lighters_53 (X12_lighters_5 f) x1 x2 x4 x3 σ21
def X12_lighters (x1 : Int32) (x2 : Int32) (σ : Mem) : Option (Int32 × Mem) :=
  X12_lighters_5 FU x1 x2 (0 : Int32) (0 : Int32) σ
def X12_whenOf_31 (rc8 : Int32 → Int32 → Int32 → Mem → Option (Int32 × Mem)) (x1 : Int32) (x2 : Int32) (x3 : Int32) (σ : Mem) : Option (Int32 × Mem) :=
  bd2 (X12_passes (0 : Int32) σ) fun r33 σ33 =>
  rc8 x1 x2 (x3 + 1) σ33
def X12_whenOf_44 (x2 : Int32) (σ : Mem) : Option (Int32 × Mem) :=
  bd (X12_comesBack σ) fun σ45 =>
  some (x2, σ45)
def X12_whenOf_8 : Nat → Int32 → Int32 → Int32 → Mem → Option (Int32 × Mem)
  | 0, _, _, _, _ => none
  | f + 1, x1, x2, x3, σ =>
    if (60 : Int32) < x3 then
      X12_whenOf_44 x2 σ
    else
      if x2 = (-1 : Int32) then
        bd (X12_of σ x1 (1 : Int32)) fun r22 =>
        if r22 = (1 : Int32) then
          X12_whenOf_31 (X12_whenOf_8 f) x1 x3 x3 σ
        else
          X12_whenOf_31 (X12_whenOf_8 f) x1 x2 x3 σ
      else
        X12_whenOf_44 x2 σ
def X12_whenOf (x1 : Int32) (σ : Mem) : Option (Int32 × Mem) :=
  bd (X12_putsAside σ) fun σ1 =>
  X12_whenOf_8 FU x1 (-1 : Int32) (0 : Int32) σ1
def X12_pane_28 (x1 : Int32) (x2 : Int32) (y1 : Int32) (σ : Mem) : Option (Int32 × Mem) :=
  bd (pu σ 399 0 y1) fun σ28 =>
  if (σ28 399 0) ≤ 0 then
    if (4 : Int32) ≤ x2 then
      if x2 = (4 : Int32) then
        bd2 (X12_lighters x1 (0 : Int32) σ28) fun r60 σ60 =>
        some (r60, σ60)
      else
        if x2 = (5 : Int32) then
          bd2 (X12_whenOf x1 σ28) fun r71 σ71 =>
          some (r71, σ71)
        else
          if x2 = (7 : Int32) then
            bd (X12_of σ28 x1 (1 : Int32)) fun r84 =>
            if r84 = (1 : Int32) then
              bd (X12_of σ28 x1 (0 : Int32)) fun r94 =>
              some (r94, σ28)
            else
              some ((0 : Int32), σ28)
          else
            bd (X12_of σ28 x1 (1 : Int32)) fun r105 =>
            if r105 = (1 : Int32) then
              some ((0 : Int32), σ28)
            else
              bd (X12_of σ28 x1 (2 : Int32)) fun r115 =>
              if r115 = (-1 : Int32) then
                some ((0 : Int32), σ28)
              else
                bd2 (X12_lighters x1 (1 : Int32) σ28) fun r129 σ129 =>
                some (r129, σ129)
    else
      bd (X12_of σ28 x1 x2) fun r48 =>
      some (r48, σ28)
  else
    some ((0 : Int32), σ28)
def X12_pane (x1 : Int32) (x2 : Int32) (σ : Mem) : Option (Int32 × Mem) :=
  bd (X12_isPane σ x1) fun r3 =>
  if r3 = 0 then
    X12_pane_28 x1 x2 (1 : Int32) σ
  else
    bd (X12_isIn σ x2 (0 : Int32) (7 : Int32)) fun r17 =>
    if r17 = 0 then
      X12_pane_28 x1 x2 (2 : Int32) σ
    else
      X12_pane_28 x1 x2 (0 : Int32) σ
def X12_tapersOf_74 (rc31 : Int32 → Int32 → Int32 → Int32 → Mem → Option (Int32 × Mem)) (x1 : Int32) (x3 : Int32) (x4 : Int32) (y0 : Int32) (y1 : Int32) (σ : Mem) : Option (Int32 × Mem) :=
  rc31 x1 (y0 + y1) x3 (x4 + 1) σ
def X12_tapersOf_73 (rc31 : Int32 → Int32 → Int32 → Int32 → Mem → Option (Int32 × Mem)) (x1 : Int32) (x3 : Int32) (x4 : Int32) (y0 : Int32) (σ : Mem) : Option (Int32 × Mem) :=
  X12_tapersOf_74 rc31 x1 x3 x4 y0 (0 : Int32) σ
def X12_tapersOf_31 : Nat → Int32 → Int32 → Int32 → Int32 → Mem → Option (Int32 × Mem)
  | 0, _, _, _, _, _ => none
  | f + 1, x1, x2, x3, x4, σ =>
    bd (ag σ 400 (3 : Int32)) fun r38 =>
    if r38 ≤ x4 then
      bd (au σ 400 (((128 : Int32) + ((4 : Int32) * x1)) + (1 : Int32)) x3) fun σ96 =>
      some (x2, σ96)
    else
      bd (X12_ofWalker σ x1 (0 : Int32)) fun r47 =>
      bd (X12_farOf σ r47 x4) fun r52 =>
      if r52 = (-1 : Int32) then
        X12_tapersOf_73 (X12_tapersOf_31 f) x1 x3 x4 x2 σ
      else
        bd2 (X12_doesLight x1 x4 σ) fun r63 σ63 =>
        if r63 = 0 then
          X12_tapersOf_73 (X12_tapersOf_31 f) x1 x3 x4 x2 σ63
        else
          X12_tapersOf_74 (X12_tapersOf_31 f) x1 x3 x4 x2 (1 : Int32) σ63
def X12_tapersOf (x1 : Int32) (σ : Mem) : Option (Int32 × Mem) :=
  bd (X12_ofWalker σ x1 (1 : Int32)) fun r5 =>
  bd (X12_greater σ (1 : Int32) r5) fun r24 =>
  bd (au σ 400 (((128 : Int32) + ((4 : Int32) * x1)) + (1 : Int32)) r24) fun σ27 =>
  X12_tapersOf_31 FU x1 (0 : Int32) r5 (0 : Int32) σ27
def X12_wouldTurn_59 (rc5 : Int32 → Int32 → Int32 → Int32 → Mem → Option (Int32 × Mem)) (x1 : Int32) (x2 : Int32) (x4 : Int32) (y0 : Int32) (σ : Mem) : Option (Int32 × Mem) :=
  rc5 x1 x2 y0 (x4 + 1) σ
def X12_wouldTurn_54 (rc5 : Int32 → Int32 → Int32 → Int32 → Mem → Option (Int32 × Mem)) (x1 : Int32) (x2 : Int32) (x4 : Int32) (σ : Mem) : Option (Int32 × Mem) :=
  X12_wouldTurn_59 rc5 x1 x2 x4 (1 : Int32) σ
def X12_wouldTurn_58 (rc5 : Int32 → Int32 → Int32 → Int32 → Mem → Option (Int32 × Mem)) (x1 : Int32) (x2 : Int32) (x4 : Int32) (σ : Mem) : Option (Int32 × Mem) :=
  X12_wouldTurn_59 rc5 x1 x2 x4 (0 : Int32) σ
def X12_wouldTurn_5 : Nat → Int32 → Int32 → Int32 → Int32 → Mem → Option (Int32 × Mem)
  | 0, _, _, _, _, _ => none
  | f + 1, x1, x2, x3, x4, σ =>
    bd (ag σ 400 (3 : Int32)) fun r12 =>
    if r12 ≤ x4 then
      bd (gb x3) fun _ =>
      some (x3, σ)
    else
      if x3 = 0 then
        bd (X12_of σ x4 (2 : Int32)) fun r24 =>
        if r24 = x2 then
          bd (X12_liking σ x1 x2) fun r40 =>
          bd (X12_lesser σ (9 : Int32) (r40 + (1 : Int32))) fun r45 =>
          bd2 (X12_wouldLight x1 x4 r45 σ) fun r48 σ48 =>
          if r48 = 0 then
            X12_wouldTurn_58 (X12_wouldTurn_5 f) x1 x2 x4 σ48
          else
            X12_wouldTurn_54 (X12_wouldTurn_5 f) x1 x2 x4 σ48
        else
          X12_wouldTurn_58 (X12_wouldTurn_5 f) x1 x2 x4 σ
      else
        X12_wouldTurn_54 (X12_wouldTurn_5 f) x1 x2 x4 σ
def X12_wouldTurn (x1 : Int32) (x2 : Int32) (σ : Mem) : Option (Int32 × Mem) :=
  X12_wouldTurn_5 FU x1 x2 (0 : Int32) (0 : Int32) σ
def X12_turnOf_9 : Nat → Int32 → Int32 → Int32 → Int32 → Mem → Option (Int32 × Mem)
  | 0, _, _, _, _, _ => none
  | f + 1, x1, x2, x3, x4, σ =>
    bd (ag σ 400 (3 : Int32)) fun r16 =>
    if r16 ≤ x4 then
      some (x2, σ)
    else
      bd (X12_of σ x4 (2 : Int32)) fun r24 =>
      bd (X12_ofWalker σ x1 (0 : Int32)) fun r33 =>
      bd (X12_farOf σ r33 x4) fun r38 =>
      if r24 = (-1 : Int32) then
        X12_turnOf_9 f x1 x2 x3 (x4 + 1) σ
      else
        if r24 = x1 then
          X12_turnOf_9 f x1 x2 x3 (x4 + 1) σ
        else
          if r38 = (-1 : Int32) then
            X12_turnOf_9 f x1 x2 x3 (x4 + 1) σ
          else
            if x3 ≤ r38 then
              X12_turnOf_9 f x1 x2 x3 (x4 + 1) σ
            else
              bd2 (X12_doesLight x1 x4 σ) fun r71 σ71 =>
              if r71 = 0 then
                X12_turnOf_9 f x1 x2 x3 (x4 + 1) σ71
              else
                bd2 (X12_wouldTurn r24 x1 σ71) fun r81 σ81 =>
                if r81 = 0 then
                  X12_turnOf_9 f x1 x2 x3 (x4 + 1) σ81
                else
                  X12_turnOf_9 f x1 x4 r38 (x4 + 1) σ81
def X12_turnOf (x1 : Int32) (σ : Mem) : Option (Int32 × Mem) :=
  X12_turnOf_9 FU x1 (-1 : Int32) (2000000000 : Int32) (0 : Int32) σ
def X12_walker_28 (x1 : Int32) (x2 : Int32) (y1 : Int32) (σ : Mem) : Option (Int32 × Mem) :=
  bd (pu σ 399 0 y1) fun σ28 =>
  if (σ28 399 0) ≤ 0 then
    if (4 : Int32) ≤ x2 then
      if x2 = (4 : Int32) then
        bd2 (X12_tapersOf x1 σ28) fun r59 σ59 =>
        some (r59, σ59)
      else
        if x2 = (5 : Int32) then
          bd2 (X12_turnOf x1 σ28) fun r70 σ70 =>
          some (r70, σ70)
        else
          bd (X12_litOfAll σ28) fun r75 =>
          if r75 = 0 then
            some ((0 : Int32), σ28)
          else
            bd (X12_ofWalker σ28 x1 (3 : Int32)) fun r90 =>
            bd (X12_litOfAll σ28) fun r95 =>
            bd (gz r95) fun _ =>
            some ((((100 : Int32) * r90) / r95), σ28)
    else
      bd (X12_ofWalker σ28 x1 x2) fun r48 =>
      some (r48, σ28)
  else
    some ((0 : Int32), σ28)
def X12_walker (x1 : Int32) (x2 : Int32) (σ : Mem) : Option (Int32 × Mem) :=
  bd (X12_isWalker σ x1) fun r3 =>
  if r3 = 0 then
    X12_walker_28 x1 x2 (1 : Int32) σ
  else
    bd (X12_isIn σ x2 (0 : Int32) (6 : Int32)) fun r17 =>
    if r17 = 0 then
      X12_walker_28 x1 x2 (2 : Int32) σ
    else
      X12_walker_28 x1 x2 (0 : Int32) σ
def X12_areTwo (x1 : Int32) (x2 : Int32) (σ : Mem) : Option Mem :=
  bd (X12_isWalker σ x1) fun r3 =>
  if r3 = 0 then
    bd (pu σ 399 0 (1 : Int32)) fun σ31 =>
    some σ31
  else
    bd (X12_isWalker σ x2) fun r11 =>
    if r11 = 0 then
      bd (pu σ 399 0 (1 : Int32)) fun σ31 =>
      some σ31
    else
      if x1 = x2 then
        bd (pu σ 399 0 (2 : Int32)) fun σ31 =>
        some σ31
      else
        bd (pu σ 399 0 (0 : Int32)) fun σ31 =>
        some σ31
def X12_likes (x1 : Int32) (x2 : Int32) (σ : Mem) : Option (Int32 × Mem) :=
  bd (X12_areTwo x1 x2 σ) fun σ3 =>
  if (σ3 399 0) ≤ 0 then
    bd (X12_liking σ3 x1 x2) fun r20 =>
    some (r20, σ3)
  else
    some ((0 : Int32), σ3)
def X12_will_22 (x1 : Int32) (x2 : Int32) (y1 : Int32) (σ : Mem) : Option (Int32 × Mem) :=
  bd (pu σ 399 0 y1) fun σ22 =>
  if (σ22 399 0) ≤ 0 then
    bd (X12_likesOwner σ22 x1 x2) fun r40 =>
    bd (X12_asks x1 x2 r40 σ22) fun σ43 =>
    some ((σ43 399 16), σ43)
  else
    some ((0 : Int32), σ22)
def X12_will_17 (x1 : Int32) (x2 : Int32) (σ : Mem) : Option (Int32 × Mem) :=
  X12_will_22 x1 x2 (1 : Int32) σ
def X12_will (x1 : Int32) (x2 : Int32) (σ : Mem) : Option (Int32 × Mem) :=
  bd (X12_isWalker σ x1) fun r3 =>
  if r3 = 0 then
    X12_will_17 x1 x2 σ
  else
    bd (X12_isPane σ x2) fun r11 =>
    if r11 = 0 then
      X12_will_17 x1 x2 σ
    else
      X12_will_22 x1 x2 (0 : Int32) σ
section WALK
variable {p : Program} {l : Launch} {e : Env} {s : State} {m : MethodId} {args : Array Value} {below : List Frame} {meth : Method} {c : Code} {E : GE}
set_option maxRecDepth 20000 in
theorem w_X12_read_106 {r : (Int32 × Mem)} {σ : Mem} {rc23 : Int32 → Int32 → Int32 → Mem → Option (Int32 × Mem)} {x1 : Int32} {x3 : Int32} {ls : Array Slot} {H : Heap} {locs : List Loc} (C : Cx p s m args meth c cX12_read (some .int) 4 RX12) (G : Gf E s) (hr23 : ∀ {x1 : Int32} {x2 : Int32} {x3 : Int32} {σ : Mem} {ls : Array Slot} {H : Heap} {locs : List Loc}, Hx E σ s H locs → lv_has ls 4 [(0, .ref (gB E + 399)), (1, .int x1), (2, .int x2), (3, .int x3)] → rc23 x1 x2 x3 σ = some r → W p l e (RM 202) s m args below meth c H locs 0 0 (QI E below args s r.1 r.2) (F0 m 23 ls [])) (X : Hx E σ s H locs) (hl : lv_has ls 4 [(0, .ref (gB E + 399)), (1, .int x1), (3, .int x3)]) (h : X12_read_106 rc23 x1 x3 σ = some r) : W p l e (RM 202) s m args below meth c H locs 0 0 (QI E below args s r.1 r.2) (F0 m 106 ls []) := by
  rw [X12_read_106] at h
  refine lv_iconst (v := 0) C.1 C.2.1 dX12_read_106 (by decide) ?_
  refine lv_istore_n (lv' := [(2, .int (0 : Int32)), (0, .ref (gB E + 399)), (1, .int x1), (3, .int x3)]) C.1 C.2.1 dX12_read_107 rfl hl (by decide) rfl (fun ls hl => ?_)
  refine lv_goto (tgt := 23) C.1 C.2.1 dX12_read_108 (by decide) ?_
  exact hr23 X (lv_sub hl [1, 2, 0, 3] rfl) h

set_option maxRecDepth 20000 in
theorem w_X12_read_80 {r : (Int32 × Mem)} {σ : Mem} {rc23 : Int32 → Int32 → Int32 → Mem → Option (Int32 × Mem)} {x1 : Int32} {x2 : Int32} {x3 : Int32} {ls : Array Slot} {H : Heap} {locs : List Loc} (C : Cx p s m args meth c cX12_read (some .int) 4 RX12) (G : Gf E s) (hr23 : ∀ {x1 : Int32} {x2 : Int32} {x3 : Int32} {σ : Mem} {ls : Array Slot} {H : Heap} {locs : List Loc}, Hx E σ s H locs → lv_has ls 4 [(0, .ref (gB E + 399)), (1, .int x1), (2, .int x2), (3, .int x3)] → rc23 x1 x2 x3 σ = some r → W p l e (RM 202) s m args below meth c H locs 0 0 (QI E below args s r.1 r.2) (F0 m 23 ls [])) (X : Hx E σ s H locs) (hl : lv_has ls 4 [(0, .ref (gB E + 399)), (1, .int x1), (2, .int x2), (3, .int x3)]) (h : X12_read_80 rc23 x1 x2 x3 σ = some r) : W p l e (RM 202) s m args below meth c H locs 0 0 (QI E below args s r.1 r.2) (F0 m 80 ls []) := by
  rw [X12_read_80] at h
  refine lv_iinc (v := (x3 + 1)) (lv' := [(3, .int (x3 + 1)), (0, .ref (gB E + 399)), (1, .int x1), (2, .int x2)]) C.1 C.2.1 dX12_read_80 hl (k := 3) rfl rfl (by decide) rfl (fun ls hl => ?_)
  refine lv_aload_n C.1 C.2.1 dX12_read_83 rfl (lv_at hl 1 rfl) ?_
  obtain ⟨σ84, e84, h⟩ := bnd h
  refine afV X (runV C G X q_X12_skip k_1754 kp_29 k_1752 (rcX12 G X kd_399) (c_X12_skip l E e84) rfl hl.1 rfl (Nat.le_of_ble_eq_true rfl) ⟨Nat.le_of_ble_eq_true rfl, Nat.le_of_ble_eq_true rfl⟩ ⟨Nat.le_of_ble_eq_true rfl, Nat.le_of_ble_eq_true rfl⟩ dX12_read_84) (fun H locs X => ?_)
  refine lv_aload_n C.1 C.2.1 dX12_read_87 rfl (lv_at hl 1 rfl) ?_
  refine gfX12 C G X (k := 399) kd_399 12 (v := .int (σ84 399 12)) rfl rfl (by decide) k_1663 rfl dX12_read_88 ?_
  refine lv_iconst (v := -1) C.1 C.2.1 dX12_read_91 (by decide) ?_
  refine lv_icmp_ne (tgt := 106) C.1 C.2.1 dX12_read_92 (by decide) (fun c92 => ?_) (fun c92 => ?_)
  · replace h := ineg c92 h
    exact w_X12_read_106 C G hr23 X (lv_sub hl [1, 2, 0] rfl) h
  · replace h := ipos c92 h
    refine lv_aload_n C.1 C.2.1 dX12_read_95 rfl (lv_at hl 1 rfl) ?_
    refine gfX12 C G X (k := 399) kd_399 11 (v := .int (σ84 399 11)) rfl rfl (by decide) k_1662 rfl dX12_read_96 ?_
    refine lv_aload_n C.1 C.2.1 dX12_read_99 rfl (lv_at hl 1 rfl) ?_
    refine gfX12 C G X (k := 399) kd_399 10 (v := .int (σ84 399 10)) rfl rfl (by decide) k_1661 rfl dX12_read_100 ?_
    refine lv_icmp_ne (tgt := 111) C.1 C.2.1 dX12_read_103 (by decide) (fun c103 => ?_) (fun c103 => ?_)
    · replace h := ineg c103 h
      refine lv_aload_n C.1 C.2.1 dX12_read_111 rfl (lv_at hl 1 rfl) ?_
      refine lv_bipush (v := 59) C.1 C.2.1 dX12_read_112 (by decide) ?_
      obtain ⟨r114, σ114, e114, h⟩ := bnd2 h
      refine afI (r0 := r114) (σ' := σ114) X (runV C G X q_X12_isSign k_1801 kp_39 k_1799 (rcX12 G X kd_399) (c_X12_isSign l E e114) rfl hl.1 rfl (Nat.le_of_ble_eq_true rfl) ⟨Nat.le_of_ble_eq_true rfl, Nat.le_of_ble_eq_true rfl⟩ ⟨Nat.le_of_ble_eq_true rfl, Nat.le_of_ble_eq_true rfl⟩ dX12_read_114) (fun H locs X => ?_)
      refine lv_if_eq (tgt := 133) C.1 C.2.1 dX12_read_117 (by decide) (fun c117 => ?_) (fun c117 => ?_)
      · replace h := ipos c117 h
        refine lv_aload_n C.1 C.2.1 dX12_read_133 rfl (lv_at hl 1 rfl) ?_
        refine lv_aload_n C.1 C.2.1 dX12_read_134 rfl (lv_at hl 1 rfl) ?_
        refine gfX12 C G X (k := 399) kd_399 11 (v := .int (σ114 399 11)) rfl rfl (by decide) k_1662 rfl dX12_read_135 ?_
        obtain ⟨σ138, e138, h⟩ := bnd h
        refine afV X (runV C G X q_X12_wrong k_1762 kp_31 k_1760 (rcX12 G X kd_399) (c_X12_wrong l E e138) rfl hl.1 rfl (Nat.le_of_ble_eq_true rfl) ⟨Nat.le_of_ble_eq_true rfl, Nat.le_of_ble_eq_true rfl⟩ ⟨Nat.le_of_ble_eq_true rfl, Nat.le_of_ble_eq_true rfl⟩ dX12_read_138) (fun H locs X => ?_)
        refine lv_goto (tgt := 23) C.1 C.2.1 dX12_read_141 (by decide) ?_
        exact hr23 X (lv_sub hl [1, 2, 3, 0] rfl) h
      · replace h := ineg c117 h
        refine lv_aload_n C.1 C.2.1 dX12_read_120 rfl (lv_at hl 1 rfl) ?_
        refine lv_dup C.1 C.2.1 dX12_read_121 rfl ?_
        refine gfX12 C G X (k := 399) kd_399 11 (v := .int (σ114 399 11)) rfl rfl (by decide) k_1662 rfl dX12_read_122 ?_
        refine lv_iconst (v := 1) C.1 C.2.1 dX12_read_125 (by decide) ?_
        refine lv_iadd C.1 C.2.1 dX12_read_126 ?_
        obtain ⟨σ127, e127, h⟩ := bnd h
        refine pfX12 C G X (k := 399) kd_399 11 (x := ((σ114 399 11) + (1 : Int32))) (ty := .int) rfl rfl (Nat.le_of_ble_eq_true rfl) (by decide) k_1662 rfl rfl (by decide +kernel) rfl rfl dX12_read_127 (fun H locs X => ?_)
        replace X := pu_x e127 X
        refine lv_goto (tgt := 23) C.1 C.2.1 dX12_read_130 (by decide) ?_
        exact hr23 X (lv_sub hl [1, 2, 3, 0] rfl) h
    · replace h := ipos c103 h
      exact w_X12_read_106 C G hr23 X (lv_sub hl [1, 2, 0] rfl) h

set_option maxRecDepth 20000 in
theorem w_X12_read_51 {r : (Int32 × Mem)} {σ : Mem} {rc23 : Int32 → Int32 → Int32 → Mem → Option (Int32 × Mem)} {x1 : Int32} {x2 : Int32} {x3 : Int32} {y0 : Int32} {y1 : Int32} {ls : Array Slot} {H : Heap} {locs : List Loc} (C : Cx p s m args meth c cX12_read (some .int) 4 RX12) (G : Gf E s) (hr23 : ∀ {x1 : Int32} {x2 : Int32} {x3 : Int32} {σ : Mem} {ls : Array Slot} {H : Heap} {locs : List Loc}, Hx E σ s H locs → lv_has ls 4 [(0, .ref (gB E + 399)), (1, .int x1), (2, .int x2), (3, .int x3)] → rc23 x1 x2 x3 σ = some r → W p l e (RM 202) s m args below meth c H locs 0 0 (QI E below args s r.1 r.2) (F0 m 23 ls [])) (X : Hx E σ s H locs) (hl : lv_has ls 4 [(0, .ref (gB E + 399)), (1, .int x1), (2, .int x2), (3, .int x3)]) (h : X12_read_51 rc23 x1 x2 x3 y0 y1 σ = some r) : W p l e (RM 202) s m args below meth c H locs 0 0 (QI E below args s r.1 r.2) (F0 m 51 ls [.int y1, .int y0]) := by
  rw [X12_read_51] at h
  refine lv_icmp_ne (tgt := 65) C.1 C.2.1 dX12_read_51 (by decide) (fun c51 => ?_) (fun c51 => ?_)
  · replace h := ineg c51 h
    refine lv_iload_n C.1 C.2.1 dX12_read_65 rfl (lv_at hl 1 rfl) ?_
    refine lv_if_eq (tgt := 76) C.1 C.2.1 dX12_read_66 (by decide) (fun c66 => ?_) (fun c66 => ?_)
    · replace h := ipos c66 h
      refine lv_aload_n C.1 C.2.1 dX12_read_76 rfl (lv_at hl 0 rfl) ?_
      obtain ⟨σ77, e77, h⟩ := bnd h
      refine afV X (runV C G X q_X12_streetLine k_1828 kp_43 k_1826 (rcX12 G X kd_399) (c_X12_streetLine l E e77) rfl hl.1 rfl (Nat.le_of_ble_eq_true rfl) ⟨Nat.le_of_ble_eq_true rfl, Nat.le_of_ble_eq_true rfl⟩ ⟨Nat.le_of_ble_eq_true rfl, Nat.le_of_ble_eq_true rfl⟩ dX12_read_77) (fun H locs X => ?_)
      exact w_X12_read_80 C G hr23 X (lv_sub hl [0, 1, 2, 3] rfl) h
    · replace h := ineg c66 h
      refine lv_aload_n C.1 C.2.1 dX12_read_69 rfl (lv_at hl 0 rfl) ?_
      obtain ⟨σ70, e70, h⟩ := bnd h
      refine afV X (runV C G X q_X12_lawLine k_1766 kp_32 k_1764 (rcX12 G X kd_399) (c_X12_lawLine l E e70) rfl hl.1 rfl (Nat.le_of_ble_eq_true rfl) ⟨Nat.le_of_ble_eq_true rfl, Nat.le_of_ble_eq_true rfl⟩ ⟨Nat.le_of_ble_eq_true rfl, Nat.le_of_ble_eq_true rfl⟩ dX12_read_70) (fun H locs X => ?_)
      refine lv_goto (tgt := 80) C.1 C.2.1 dX12_read_73 (by decide) ?_
      exact w_X12_read_80 C G hr23 X (lv_sub hl [0, 1, 2, 3] rfl) h
  · replace h := ipos c51 h
    refine lv_aload_n C.1 C.2.1 dX12_read_54 rfl (lv_at hl 0 rfl) ?_
    refine lv_aload_n C.1 C.2.1 dX12_read_55 rfl (lv_at hl 0 rfl) ?_
    refine gfX12 C G X (k := 399) kd_399 11 (v := .int (σ 399 11)) rfl rfl (by decide) k_1662 rfl dX12_read_56 ?_
    obtain ⟨σ59, e59, h⟩ := bnd h
    refine afV X (runV C G X q_X12_wrong k_1762 kp_31 k_1760 (rcX12 G X kd_399) (c_X12_wrong l E e59) rfl hl.1 rfl (Nat.le_of_ble_eq_true rfl) ⟨Nat.le_of_ble_eq_true rfl, Nat.le_of_ble_eq_true rfl⟩ ⟨Nat.le_of_ble_eq_true rfl, Nat.le_of_ble_eq_true rfl⟩ dX12_read_59) (fun H locs X => ?_)
    refine lv_goto (tgt := 80) C.1 C.2.1 dX12_read_62 (by decide) ?_
    exact w_X12_read_80 C G hr23 X (lv_sub hl [0, 1, 2, 3] rfl) h

set_option maxRecDepth 20000 in
theorem w_X12_read_23 {r : (Int32 × Mem)} (C : Cx p s m args meth c cX12_read (some .int) 4 RX12) (G : Gf E s) : ∀ (f : Nat) {x1 : Int32} {x2 : Int32} {x3 : Int32} {σ : Mem} {ls : Array Slot} {H : Heap} {locs : List Loc}, Hx E σ s H locs → lv_has ls 4 [(0, .ref (gB E + 399)), (1, .int x1), (2, .int x2), (3, .int x3)] → X12_read_23 f x1 x2 x3 σ = some r → W p l e (RM 202) s m args below meth c H locs 0 0 (QI E below args s r.1 r.2) (F0 m 23 ls []) := by
  intro f
  induction f with
  | zero =>
    intro x1 x2 x3 σ ls H locs X hl h
    rw [X12_read_23] at h
    cases h
  | succ f ih =>
    intro x1 x2 x3 σ ls H locs X hl h
    rw [X12_read_23] at h
    refine lv_iload_n C.1 C.2.1 dX12_read_23 rfl (lv_at hl 2 rfl) ?_
    refine lv_if_eq (tgt := 144) C.1 C.2.1 dX12_read_24 (by decide) (fun c24 => ?_) (fun c24 => ?_)
    · replace h := ipos c24 h
      refine lv_iload_n C.1 C.2.1 dX12_read_144 rfl (lv_at hl 3 rfl) ?_
      rw [← Option.some.inj h]
      exact rtI C X dX12_read_145
    · replace h := ineg c24 h
      refine lv_aload_n C.1 C.2.1 dX12_read_27 rfl (lv_at hl 0 rfl) ?_
      refine gfX12 C G X (k := 399) kd_399 12 (v := .int (σ 399 12)) rfl rfl (by decide) k_1663 rfl dX12_read_28 ?_
      refine lv_iconst (v := -1) C.1 C.2.1 dX12_read_31 (by decide) ?_
      refine lv_icmp_ne (tgt := 144) C.1 C.2.1 dX12_read_32 (by decide) (fun c32 => ?_) (fun c32 => ?_)
      · replace h := ineg c32 h
        refine lv_iload_n C.1 C.2.1 dX12_read_144 rfl (lv_at hl 3 rfl) ?_
        rw [← Option.some.inj h]
        exact rtI C X dX12_read_145
      · replace h := ipos c32 h
        refine lv_aload_n C.1 C.2.1 dX12_read_35 rfl (lv_at hl 0 rfl) ?_
        obtain ⟨σ36, e36, h⟩ := bnd h
        refine afV X (runV C G X q_X12_skip k_1754 kp_29 k_1752 (rcX12 G X kd_399) (c_X12_skip l E e36) rfl hl.1 rfl (Nat.le_of_ble_eq_true rfl) ⟨Nat.le_of_ble_eq_true rfl, Nat.le_of_ble_eq_true rfl⟩ ⟨Nat.le_of_ble_eq_true rfl, Nat.le_of_ble_eq_true rfl⟩ dX12_read_36) (fun H locs X => ?_)
        refine lv_iload_n C.1 C.2.1 dX12_read_39 rfl (lv_at hl 3 rfl) ?_
        refine lv_iload_n C.1 C.2.1 dX12_read_40 rfl (lv_at hl 1 rfl) ?_
        refine lv_if_eq (tgt := 49) C.1 C.2.1 dX12_read_41 (by decide) (fun c41 => ?_) (fun c41 => ?_)
        · replace h := ipos c41 h
          refine lv_bipush (v := 14) C.1 C.2.1 dX12_read_49 (by decide) ?_
          exact w_X12_read_51 C G ih X (lv_sub hl [0, 1, 2, 3] rfl) h
        · replace h := ineg c41 h
          refine lv_bipush (v := 12) C.1 C.2.1 dX12_read_44 (by decide) ?_
          refine lv_goto (tgt := 51) C.1 C.2.1 dX12_read_46 (by decide) ?_
          exact w_X12_read_51 C G ih X (lv_sub hl [0, 1, 2, 3] rfl) h

set_option maxRecDepth 20000 in
theorem w_X12_read_20 {r : (Int32 × Mem)} {σ : Mem} {x1 : Int32} {y0 : Int32} {ls : Array Slot} {H : Heap} {locs : List Loc} (C : Cx p s m args meth c cX12_read (some .int) 4 RX12) (G : Gf E s) (X : Hx E σ s H locs) (hl : lv_has ls 4 [(0, .ref (gB E + 399)), (1, .int x1)]) (h : X12_read_20 x1 y0 σ = some r) : W p l e (RM 202) s m args below meth c H locs 0 0 (QI E below args s r.1 r.2) (F0 m 20 ls [.int y0]) := by
  rw [X12_read_20] at h
  refine lv_istore_n (lv' := [(2, .int y0), (0, .ref (gB E + 399)), (1, .int x1)]) C.1 C.2.1 dX12_read_20 rfl hl (by decide) rfl (fun ls hl => ?_)
  refine lv_iconst (v := 0) C.1 C.2.1 dX12_read_21 (by decide) ?_
  refine lv_istore_n (lv' := [(3, .int (0 : Int32)), (2, .int y0), (0, .ref (gB E + 399)), (1, .int x1)]) C.1 C.2.1 dX12_read_22 rfl hl (by decide) rfl (fun ls hl => ?_)
  exact w_X12_read_23 C G FU X (lv_sub hl [2, 3, 1, 0] rfl) h

set_option maxRecDepth 20000 in
theorem w_X12_read {r : (Int32 × Mem)} {σ : Mem} {x1 : Int32} {ls : Array Slot} {H : Heap} {locs : List Loc} (C : Cx p s m args meth c cX12_read (some .int) 4 RX12) (G : Gf E s) (X : Hx E σ s H locs) (hl : lv_has ls 4 [(0, .ref (gB E + 399)), (1, .int x1)]) (h : X12_read x1 σ = some r) : W p l e (RM 202) s m args below meth c H locs 0 0 (QI E below args s r.1 r.2) (F0 m 0 ls []) := by
  rw [X12_read] at h
  refine lv_aload_n C.1 C.2.1 dX12_read_0 rfl (lv_at hl 0 rfl) ?_
  obtain ⟨σ1, e1, h⟩ := bnd h
  refine afV X (runV C G X q_X12_skip k_1754 kp_29 k_1752 (rcX12 G X kd_399) (c_X12_skip l E e1) rfl hl.1 rfl (Nat.le_of_ble_eq_true rfl) ⟨Nat.le_of_ble_eq_true rfl, Nat.le_of_ble_eq_true rfl⟩ ⟨Nat.le_of_ble_eq_true rfl, Nat.le_of_ble_eq_true rfl⟩ dX12_read_1) (fun H locs X => ?_)
  refine lv_aload_n C.1 C.2.1 dX12_read_4 rfl (lv_at hl 0 rfl) ?_
  refine gfX12 C G X (k := 399) kd_399 11 (v := .int (σ1 399 11)) rfl rfl (by decide) k_1662 rfl dX12_read_5 ?_
  refine lv_aload_n C.1 C.2.1 dX12_read_8 rfl (lv_at hl 0 rfl) ?_
  refine gfX12 C G X (k := 399) kd_399 10 (v := .int (σ1 399 10)) rfl rfl (by decide) k_1661 rfl dX12_read_9 ?_
  refine lv_icmp_ge (tgt := 19) C.1 C.2.1 dX12_read_12 (by decide) (fun c12 => ?_) (fun c12 => ?_)
  · replace h := ipos c12 h
    refine lv_iconst (v := 0) C.1 C.2.1 dX12_read_19 (by decide) ?_
    exact w_X12_read_20 C G X (lv_sub hl [0, 1] rfl) h
  · replace h := ineg c12 h
    refine lv_iconst (v := 1) C.1 C.2.1 dX12_read_15 (by decide) ?_
    refine lv_goto (tgt := 20) C.1 C.2.1 dX12_read_16 (by decide) ?_
    exact w_X12_read_20 C G X (lv_sub hl [0, 1] rfl) h

theorem c_X12_read (l : Launch) (E : GE) {σ : Mem} {x1 : Int32} {r : (Int32 × Mem)} (h : X12_read x1 σ = some r) : CtI l E yX12_read cX12_read 4 .int 202 [.ref (gB E + 399), .int x1] σ r.1 r.2 := by
  refine Met.ofW (cc := cX12_read) (maxL := 4) (ret := (some .int)) (by decide) rfl ?_
  intro p e s m args below meth c s₁ B hml hv
  obtain ⟨rfl, G, X⟩ := start hv
  have C := cxof B hml
  have hl := lv_entry [.ref (gB E + 399), .int x1] (n := 4) (Nat.le_of_ble_eq_true rfl)
  rw [lg_entry_eq]
  generalize (lg_sl [.ref (gB E + 399), .int x1] ++ List.replicate (4 - (lg_sl [.ref (gB E + 399), .int x1]).length) Slot.unset).toArray = ls at hl ⊢
  exact w_X12_read C G X hl h

set_option maxRecDepth 20000 in
theorem w_X12_putsAside_2 {r : Mem} (C : Cx p s m args meth c cX12_putsAside none 2 RX12) (G : Gf E s) : ∀ (f : Nat) {x1 : Int32} {σ : Mem} {ls : Array Slot} {H : Heap} {locs : List Loc}, Hx E σ s H locs → lv_has ls 2 [(0, .ref (gB E + 399)), (1, .int x1)] → X12_putsAside_2 f x1 σ = some r → W p l e (RM 1) s m args below meth c H locs 0 0 (QV E below args s r) (F0 m 2 ls []) := by
  intro f
  induction f with
  | zero =>
    intro x1 σ ls H locs X hl h
    rw [X12_putsAside_2] at h
    cases h
  | succ f ih =>
    intro x1 σ ls H locs X hl h
    rw [X12_putsAside_2] at h
    refine lv_iload_n C.1 C.2.1 dX12_putsAside_2 rfl (lv_at hl 1 rfl) ?_
    refine lv_sipush (v := 488) C.1 C.2.1 dX12_putsAside_3 (by decide) ?_
    refine lv_icmp_ge (tgt := 27) C.1 C.2.1 dX12_putsAside_6 (by decide) (fun c6 => ?_) (fun c6 => ?_)
    · replace h := ipos c6 h
      rw [← Option.some.inj h]
      exact rtV C X dX12_putsAside_27
    · replace h := ineg c6 h
      refine lv_aload_n C.1 C.2.1 dX12_putsAside_9 rfl (lv_at hl 0 rfl) ?_
      refine gfX12 C G X (k := 399) kd_399 4 (v := .ref (gB E + 402)) rfl rfl (by decide) k_1655 rfl dX12_putsAside_10 ?_
      refine lv_iload_n C.1 C.2.1 dX12_putsAside_13 rfl (lv_at hl 1 rfl) ?_
      refine lv_aload_n C.1 C.2.1 dX12_putsAside_14 rfl (lv_at hl 0 rfl) ?_
      refine gfX12 C G X (k := 399) kd_399 1 (v := .ref (gB E + 400)) rfl rfl (by decide) k_1652 rfl dX12_putsAside_15 ?_
      refine lv_iload_n C.1 C.2.1 dX12_putsAside_18 rfl (lv_at hl 1 rfl) ?_
      obtain ⟨r19, e19, h⟩ := bnd h
      refine ald C G X (k := 400) kd_400 (ag_s e19).1 dX12_putsAside_19 ?_
      rw [(ag_s e19).2]
      obtain ⟨σ20, e20, h⟩ := bnd h
      refine ast C G X (k := 402) kd_402 (au_s e20).1 dX12_putsAside_20 (fun H locs X => ?_)
      rw [(au_s e20).2] at X
      refine lv_iinc (v := (x1 + 1)) (lv' := [(1, .int (x1 + 1)), (0, .ref (gB E + 399))]) C.1 C.2.1 dX12_putsAside_21 hl (k := 1) rfl rfl (by decide) rfl (fun ls hl => ?_)
      refine lv_goto (tgt := 2) C.1 C.2.1 dX12_putsAside_24 (by decide) ?_
      exact ih X (lv_sub hl [1, 0] rfl) h

set_option maxRecDepth 20000 in
theorem w_X12_putsAside {r : Mem} {σ : Mem} {ls : Array Slot} {H : Heap} {locs : List Loc} (C : Cx p s m args meth c cX12_putsAside none 2 RX12) (G : Gf E s) (X : Hx E σ s H locs) (hl : lv_has ls 2 [(0, .ref (gB E + 399))]) (h : X12_putsAside σ = some r) : W p l e (RM 1) s m args below meth c H locs 0 0 (QV E below args s r) (F0 m 0 ls []) := by
  rw [X12_putsAside] at h
  refine lv_iconst (v := 0) C.1 C.2.1 dX12_putsAside_0 (by decide) ?_
  refine lv_istore_n (lv' := [(1, .int (0 : Int32)), (0, .ref (gB E + 399))]) C.1 C.2.1 dX12_putsAside_1 rfl hl (by decide) rfl (fun ls hl => ?_)
  exact w_X12_putsAside_2 C G FU X (lv_sub hl [1, 0] rfl) h

theorem c_X12_putsAside (l : Launch) (E : GE) {σ : Mem} {r : Mem} (h : X12_putsAside σ = some r) : CtV l E yX12_putsAside cX12_putsAside 2 1 [.ref (gB E + 399)] σ r := by
  refine Met.ofW (cc := cX12_putsAside) (maxL := 2) (ret := none) (by decide) rfl ?_
  intro p e s m args below meth c s₁ B hml hv
  obtain ⟨rfl, G, X⟩ := start hv
  have C := cxof B hml
  have hl := lv_entry [.ref (gB E + 399)] (n := 2) (Nat.le_of_ble_eq_true rfl)
  rw [lg_entry_eq]
  generalize (lg_sl [.ref (gB E + 399)] ++ List.replicate (2 - (lg_sl [.ref (gB E + 399)]).length) Slot.unset).toArray = ls at hl ⊢
  exact w_X12_putsAside C G X hl h

set_option maxRecDepth 20000 in
theorem w_X12_comesBack_2 {r : Mem} (C : Cx p s m args meth c cX12_comesBack none 2 RX12) (G : Gf E s) : ∀ (f : Nat) {x1 : Int32} {σ : Mem} {ls : Array Slot} {H : Heap} {locs : List Loc}, Hx E σ s H locs → lv_has ls 2 [(0, .ref (gB E + 399)), (1, .int x1)] → X12_comesBack_2 f x1 σ = some r → W p l e (RM 1) s m args below meth c H locs 0 0 (QV E below args s r) (F0 m 2 ls []) := by
  intro f
  induction f with
  | zero =>
    intro x1 σ ls H locs X hl h
    rw [X12_comesBack_2] at h
    cases h
  | succ f ih =>
    intro x1 σ ls H locs X hl h
    rw [X12_comesBack_2] at h
    refine lv_iload_n C.1 C.2.1 dX12_comesBack_2 rfl (lv_at hl 1 rfl) ?_
    refine lv_sipush (v := 488) C.1 C.2.1 dX12_comesBack_3 (by decide) ?_
    refine lv_icmp_ge (tgt := 27) C.1 C.2.1 dX12_comesBack_6 (by decide) (fun c6 => ?_) (fun c6 => ?_)
    · replace h := ipos c6 h
      rw [← Option.some.inj h]
      exact rtV C X dX12_comesBack_27
    · replace h := ineg c6 h
      refine lv_aload_n C.1 C.2.1 dX12_comesBack_9 rfl (lv_at hl 0 rfl) ?_
      refine gfX12 C G X (k := 399) kd_399 1 (v := .ref (gB E + 400)) rfl rfl (by decide) k_1652 rfl dX12_comesBack_10 ?_
      refine lv_iload_n C.1 C.2.1 dX12_comesBack_13 rfl (lv_at hl 1 rfl) ?_
      refine lv_aload_n C.1 C.2.1 dX12_comesBack_14 rfl (lv_at hl 0 rfl) ?_
      refine gfX12 C G X (k := 399) kd_399 4 (v := .ref (gB E + 402)) rfl rfl (by decide) k_1655 rfl dX12_comesBack_15 ?_
      refine lv_iload_n C.1 C.2.1 dX12_comesBack_18 rfl (lv_at hl 1 rfl) ?_
      obtain ⟨r19, e19, h⟩ := bnd h
      refine ald C G X (k := 402) kd_402 (ag_s e19).1 dX12_comesBack_19 ?_
      rw [(ag_s e19).2]
      obtain ⟨σ20, e20, h⟩ := bnd h
      refine ast C G X (k := 400) kd_400 (au_s e20).1 dX12_comesBack_20 (fun H locs X => ?_)
      rw [(au_s e20).2] at X
      refine lv_iinc (v := (x1 + 1)) (lv' := [(1, .int (x1 + 1)), (0, .ref (gB E + 399))]) C.1 C.2.1 dX12_comesBack_21 hl (k := 1) rfl rfl (by decide) rfl (fun ls hl => ?_)
      refine lv_goto (tgt := 2) C.1 C.2.1 dX12_comesBack_24 (by decide) ?_
      exact ih X (lv_sub hl [1, 0] rfl) h

set_option maxRecDepth 20000 in
theorem w_X12_comesBack {r : Mem} {σ : Mem} {ls : Array Slot} {H : Heap} {locs : List Loc} (C : Cx p s m args meth c cX12_comesBack none 2 RX12) (G : Gf E s) (X : Hx E σ s H locs) (hl : lv_has ls 2 [(0, .ref (gB E + 399))]) (h : X12_comesBack σ = some r) : W p l e (RM 1) s m args below meth c H locs 0 0 (QV E below args s r) (F0 m 0 ls []) := by
  rw [X12_comesBack] at h
  refine lv_iconst (v := 0) C.1 C.2.1 dX12_comesBack_0 (by decide) ?_
  refine lv_istore_n (lv' := [(1, .int (0 : Int32)), (0, .ref (gB E + 399))]) C.1 C.2.1 dX12_comesBack_1 rfl hl (by decide) rfl (fun ls hl => ?_)
  exact w_X12_comesBack_2 C G FU X (lv_sub hl [1, 0] rfl) h

theorem c_X12_comesBack (l : Launch) (E : GE) {σ : Mem} {r : Mem} (h : X12_comesBack σ = some r) : CtV l E yX12_comesBack cX12_comesBack 2 1 [.ref (gB E + 399)] σ r := by
  refine Met.ofW (cc := cX12_comesBack) (maxL := 2) (ret := none) (by decide) rfl ?_
  intro p e s m args below meth c s₁ B hml hv
  obtain ⟨rfl, G, X⟩ := start hv
  have C := cxof B hml
  have hl := lv_entry [.ref (gB E + 399)] (n := 2) (Nat.le_of_ble_eq_true rfl)
  rw [lg_entry_eq]
  generalize (lg_sl [.ref (gB E + 399)] ++ List.replicate (2 - (lg_sl [.ref (gB E + 399)]).length) Slot.unset).toArray = ls at hl ⊢
  exact w_X12_comesBack C G X hl h

set_option maxRecDepth 20000 in
theorem w_X12_street_43 {r : (Int32 × Mem)} {σ : Mem} {y1 : Int32} {ls : Array Slot} {H : Heap} {locs : List Loc} (C : Cx p s m args meth c cX12_street (some .int) 2 RX12) (G : Gf E s) (X : Hx E σ s H locs) (hl : lv_has ls 2 [(0, .ref (gB E + 399))]) (h : X12_street_43 y1 σ = some r) : W p l e (RM 203) s m args below meth c H locs 0 0 (QI E below args s r.1 r.2) (F0 m 43 ls [.int y1, .ref (gB E + 399)]) := by
  rw [X12_street_43] at h
  obtain ⟨σ43, e43, h⟩ := bnd h
  refine pfX12 C G X (k := 399) kd_399 0 (x := y1) (ty := .int) rfl rfl (Nat.le_of_ble_eq_true rfl) (by decide) k_1651 rfl rfl (by decide +kernel) rfl rfl dX12_street_43 (fun H locs X => ?_)
  replace X := pu_x e43 X
  refine lv_aload_n C.1 C.2.1 dX12_street_46 rfl (lv_at hl 0 rfl) ?_
  refine gfX12 C G X (k := 399) kd_399 0 (v := .int (σ43 399 0)) rfl rfl (by decide) k_1651 rfl dX12_street_47 ?_
  refine lv_if_le (tgt := 59) C.1 C.2.1 dX12_street_50 (by decide) (fun c50 => ?_) (fun c50 => ?_)
  · replace h := ipos c50 h
    refine lv_aload_n C.1 C.2.1 dX12_street_59 rfl (lv_at hl 0 rfl) ?_
    refine gfX12 C G X (k := 399) kd_399 1 (v := .ref (gB E + 400)) rfl rfl (by decide) k_1652 rfl dX12_street_60 ?_
    refine lv_iconst (v := 0) C.1 C.2.1 dX12_street_63 (by decide) ?_
    refine lv_dup2_11 C.1 C.2.1 dX12_street_64 rfl rfl ?_
    obtain ⟨r65, e65, h⟩ := bnd h
    refine ald C G X (k := 400) kd_400 (ag_s e65).1 dX12_street_65 ?_
    rw [(ag_s e65).2]
    refine lv_iconst (v := 1) C.1 C.2.1 dX12_street_66 (by decide) ?_
    refine lv_iadd C.1 C.2.1 dX12_street_67 ?_
    obtain ⟨σ68, e68, h⟩ := bnd h
    refine ast C G X (k := 400) kd_400 (au_s e68).1 dX12_street_68 (fun H locs X => ?_)
    rw [(au_s e68).2] at X
    refine lv_aload_n C.1 C.2.1 dX12_street_69 rfl (lv_at hl 0 rfl) ?_
    refine lv_iconst (v := 0) C.1 C.2.1 dX12_street_70 (by decide) ?_
    obtain ⟨σ71, e71, h⟩ := bnd h
    refine pfX12 C G X (k := 399) kd_399 6 (x := (0 : Int32)) (ty := .int) rfl rfl (Nat.le_of_ble_eq_true rfl) (by decide) k_1657 rfl rfl (by decide +kernel) rfl rfl dX12_street_71 (fun H locs X => ?_)
    replace X := pu_x e71 X
    refine lv_aload_n C.1 C.2.1 dX12_street_74 rfl (lv_at hl 0 rfl) ?_
    refine gfX12 C G X (k := 399) kd_399 1 (v := .ref (gB E + 400)) rfl rfl (by decide) k_1652 rfl dX12_street_75 ?_
    refine lv_iconst (v := 0) C.1 C.2.1 dX12_street_78 (by decide) ?_
    obtain ⟨r79, e79, h⟩ := bnd h
    refine ald C G X (k := 400) kd_400 (ag_s e79).1 dX12_street_79 ?_
    rw [(ag_s e79).2]
    rw [← Option.some.inj h]
    exact rtI C X dX12_street_80
  · replace h := ineg c50 h
    refine lv_aload_n C.1 C.2.1 dX12_street_53 rfl (lv_at hl 0 rfl) ?_
    obtain ⟨σ54, e54, h⟩ := bnd h
    refine afV X (runV C G X q_X12_comesBack k_1875 kp_53 k_1873 (rcX12 G X kd_399) (c_X12_comesBack l E e54) rfl hl.1 rfl (Nat.le_of_ble_eq_true rfl) ⟨Nat.le_of_ble_eq_true rfl, Nat.le_of_ble_eq_true rfl⟩ ⟨Nat.le_of_ble_eq_true rfl, Nat.le_of_ble_eq_true rfl⟩ dX12_street_54) (fun H locs X => ?_)
    refine lv_iconst (v := 0) C.1 C.2.1 dX12_street_57 (by decide) ?_
    rw [← Option.some.inj h]
    exact rtI C X dX12_street_58

set_option maxRecDepth 20000 in
theorem w_X12_street {r : (Int32 × Mem)} {σ : Mem} {ls : Array Slot} {H : Heap} {locs : List Loc} (C : Cx p s m args meth c cX12_street (some .int) 2 RX12) (G : Gf E s) (X : Hx E σ s H locs) (hl : lv_has ls 2 [(0, .ref (gB E + 399))]) (h : X12_street σ = some r) : W p l e (RM 203) s m args below meth c H locs 0 0 (QI E below args s r.1 r.2) (F0 m 0 ls []) := by
  rw [X12_street] at h
  refine lv_aload_n C.1 C.2.1 dX12_street_0 rfl (lv_at hl 0 rfl) ?_
  obtain ⟨σ1, e1, h⟩ := bnd h
  refine afV X (runV C G X q_X12_putsAside k_1742 kp_26 k_1740 (rcX12 G X kd_399) (c_X12_putsAside l E e1) rfl hl.1 rfl (Nat.le_of_ble_eq_true rfl) ⟨Nat.le_of_ble_eq_true rfl, Nat.le_of_ble_eq_true rfl⟩ ⟨Nat.le_of_ble_eq_true rfl, Nat.le_of_ble_eq_true rfl⟩ dX12_street_1) (fun H locs X => ?_)
  refine lv_aload_n C.1 C.2.1 dX12_street_4 rfl (lv_at hl 0 rfl) ?_
  obtain ⟨σ5, e5, h⟩ := bnd h
  refine afV X (runV C G X q_X12_begins k_1746 kp_27 k_1744 (rcX12 G X kd_399) (c_X12_begins l E e5) rfl hl.1 rfl (Nat.le_of_ble_eq_true rfl) ⟨Nat.le_of_ble_eq_true rfl, Nat.le_of_ble_eq_true rfl⟩ ⟨Nat.le_of_ble_eq_true rfl, Nat.le_of_ble_eq_true rfl⟩ dX12_street_5) (fun H locs X => ?_)
  refine lv_aload_n C.1 C.2.1 dX12_street_8 rfl (lv_at hl 0 rfl) ?_
  refine lv_iconst (v := 0) C.1 C.2.1 dX12_street_9 (by decide) ?_
  obtain ⟨r10, σ10, e10, h⟩ := bnd2 h
  refine afI (r0 := r10) (σ' := σ10) X (runV C G X q_X12_read k_1750 kp_28 k_1748 (rcX12 G X kd_399) (c_X12_read l E e10) rfl hl.1 rfl (Nat.le_of_ble_eq_true rfl) ⟨Nat.le_of_ble_eq_true rfl, Nat.le_of_ble_eq_true rfl⟩ ⟨Nat.le_of_ble_eq_true rfl, Nat.le_of_ble_eq_true rfl⟩ dX12_street_10) (fun H locs X => ?_)
  refine lv_istore_n (lv' := [(1, .int r10), (0, .ref (gB E + 399))]) C.1 C.2.1 dX12_street_13 rfl hl (by decide) rfl (fun ls hl => ?_)
  refine lv_aload_n C.1 C.2.1 dX12_street_14 rfl (lv_at hl 1 rfl) ?_
  refine lv_aload_n C.1 C.2.1 dX12_street_15 rfl (lv_at hl 1 rfl) ?_
  refine gfX12 C G X (k := 399) kd_399 12 (v := .int (σ10 399 12)) rfl rfl (by decide) k_1663 rfl dX12_street_16 ?_
  refine lv_iconst (v := -1) C.1 C.2.1 dX12_street_19 (by decide) ?_
  refine lv_icmp_eq (tgt := 27) C.1 C.2.1 dX12_street_20 (by decide) (fun c20 => ?_) (fun c20 => ?_)
  · replace h := ipos c20 h
    refine lv_aload_n C.1 C.2.1 dX12_street_27 rfl (lv_at hl 1 rfl) ?_
    refine gfX12 C G X (k := 399) kd_399 1 (v := .ref (gB E + 400)) rfl rfl (by decide) k_1652 rfl dX12_street_28 ?_
    refine lv_iconst (v := 0) C.1 C.2.1 dX12_street_31 (by decide) ?_
    obtain ⟨r32, e32, h⟩ := bnd h
    refine ald C G X (k := 400) kd_400 (ag_s e32).1 dX12_street_32 ?_
    rw [(ag_s e32).2]
    refine lv_bipush (v := 12) C.1 C.2.1 dX12_street_33 (by decide) ?_
    refine lv_icmp_ne (tgt := 42) C.1 C.2.1 dX12_street_35 (by decide) (fun c35 => ?_) (fun c35 => ?_)
    · replace h := ineg c35 h
      refine lv_iconst (v := 0) C.1 C.2.1 dX12_street_42 (by decide) ?_
      exact w_X12_street_43 C G X (lv_sub hl [1] rfl) h
    · replace h := ipos c35 h
      refine lv_iconst (v := 2) C.1 C.2.1 dX12_street_38 (by decide) ?_
      refine lv_goto (tgt := 43) C.1 C.2.1 dX12_street_39 (by decide) ?_
      exact w_X12_street_43 C G X (lv_sub hl [1] rfl) h
  · replace h := ineg c20 h
    refine lv_iconst (v := 1) C.1 C.2.1 dX12_street_23 (by decide) ?_
    refine lv_goto (tgt := 43) C.1 C.2.1 dX12_street_24 (by decide) ?_
    exact w_X12_street_43 C G X (lv_sub hl [1] rfl) h

theorem c_X12_street (l : Launch) (E : GE) {σ : Mem} {r : (Int32 × Mem)} (h : X12_street σ = some r) : CtI l E yX12_street cX12_street 2 .int 203 [.ref (gB E + 399)] σ r.1 r.2 := by
  refine Met.ofW (cc := cX12_street) (maxL := 2) (ret := (some .int)) (by decide) rfl ?_
  intro p e s m args below meth c s₁ B hml hv
  obtain ⟨rfl, G, X⟩ := start hv
  have C := cxof B hml
  have hl := lv_entry [.ref (gB E + 399)] (n := 2) (Nat.le_of_ble_eq_true rfl)
  rw [lg_entry_eq]
  generalize (lg_sl [.ref (gB E + 399)] ++ List.replicate (2 - (lg_sl [.ref (gB E + 399)]).length) Slot.unset).toArray = ls at hl ⊢
  exact w_X12_street C G X hl h

set_option maxRecDepth 20000 in
theorem w_X12_law_55 {r : (Int32 × Mem)} (C : Cx p s m args meth c cX12_law (some .int) 3 RX12) (G : Gf E s) : ∀ (f : Nat) {x1 : Int32} {x2 : Int32} {σ : Mem} {ls : Array Slot} {H : Heap} {locs : List Loc}, Hx E σ s H locs → lv_has ls 3 [(0, .ref (gB E + 399)), (1, .int x1), (2, .int x2)] → X12_law_55 f x1 x2 σ = some r → W p l e (RM 203) s m args below meth c H locs 0 0 (QI E below args s r.1 r.2) (F0 m 55 ls []) := by
  intro f
  induction f with
  | zero =>
    intro x1 x2 σ ls H locs X hl h
    rw [X12_law_55] at h
    cases h
  | succ f ih =>
    intro x1 x2 σ ls H locs X hl h
    rw [X12_law_55] at h
    refine lv_iload_n C.1 C.2.1 dX12_law_55 rfl (lv_at hl 2 rfl) ?_
    refine lv_aload_n C.1 C.2.1 dX12_law_56 rfl (lv_at hl 0 rfl) ?_
    refine gfX12 C G X (k := 399) kd_399 10 (v := .int (σ 399 10)) rfl rfl (by decide) k_1661 rfl dX12_law_57 ?_
    refine lv_icmp_ge (tgt := 85) C.1 C.2.1 dX12_law_60 (by decide) (fun c60 => ?_) (fun c60 => ?_)
    · replace h := ipos c60 h
      refine lv_aload_n C.1 C.2.1 dX12_law_85 rfl (lv_at hl 0 rfl) ?_
      refine lv_iconst (v := 0) C.1 C.2.1 dX12_law_86 (by decide) ?_
      obtain ⟨σ87, e87, h⟩ := bnd h
      refine pfX12 C G X (k := 399) kd_399 6 (x := (0 : Int32)) (ty := .int) rfl rfl (Nat.le_of_ble_eq_true rfl) (by decide) k_1657 rfl rfl (by decide +kernel) rfl rfl dX12_law_87 (fun H locs X => ?_)
      replace X := pu_x e87 X
      refine lv_iload_n C.1 C.2.1 dX12_law_90 rfl (lv_at hl 1 rfl) ?_
      rw [← Option.some.inj h]
      exact rtI C X dX12_law_91
    · replace h := ineg c60 h
      refine lv_aload_n C.1 C.2.1 dX12_law_63 rfl (lv_at hl 0 rfl) ?_
      refine gfX12 C G X (k := 399) kd_399 1 (v := .ref (gB E + 400)) rfl rfl (by decide) k_1652 rfl dX12_law_64 ?_
      refine lv_sipush (v := 488) C.1 C.2.1 dX12_law_67 (by decide) ?_
      refine lv_iload_n C.1 C.2.1 dX12_law_70 rfl (lv_at hl 2 rfl) ?_
      refine lv_iadd C.1 C.2.1 dX12_law_71 ?_
      refine lv_aload_n C.1 C.2.1 dX12_law_72 rfl (lv_at hl 0 rfl) ?_
      refine gfX12 C G X (k := 399) kd_399 7 (v := .ref (gB E + 404)) rfl rfl (by decide) k_1658 rfl dX12_law_73 ?_
      refine lv_iload_n C.1 C.2.1 dX12_law_76 rfl (lv_at hl 2 rfl) ?_
      obtain ⟨r77, e77, h⟩ := bnd h
      refine ald C G X (k := 404) kd_404 (ag_s e77).1 dX12_law_77 ?_
      rw [(ag_s e77).2]
      obtain ⟨σ78, e78, h⟩ := bnd h
      refine ast C G X (k := 400) kd_400 (au_s e78).1 dX12_law_78 (fun H locs X => ?_)
      rw [(au_s e78).2] at X
      refine lv_iinc (v := (x2 + 1)) (lv' := [(2, .int (x2 + 1)), (0, .ref (gB E + 399)), (1, .int x1)]) C.1 C.2.1 dX12_law_79 hl (k := 2) rfl rfl (by decide) rfl (fun ls hl => ?_)
      refine lv_goto (tgt := 55) C.1 C.2.1 dX12_law_82 (by decide) ?_
      exact ih X (lv_sub hl [1, 2, 0] rfl) h

set_option maxRecDepth 20000 in
theorem w_X12_law_24 {r : (Int32 × Mem)} {σ : Mem} {x1 : Int32} {y1 : Int32} {ls : Array Slot} {H : Heap} {locs : List Loc} (C : Cx p s m args meth c cX12_law (some .int) 3 RX12) (G : Gf E s) (X : Hx E σ s H locs) (hl : lv_has ls 3 [(0, .ref (gB E + 399)), (1, .int x1)]) (h : X12_law_24 x1 y1 σ = some r) : W p l e (RM 203) s m args below meth c H locs 0 0 (QI E below args s r.1 r.2) (F0 m 24 ls [.int y1, .ref (gB E + 399)]) := by
  rw [X12_law_24] at h
  obtain ⟨σ24, e24, h⟩ := bnd h
  refine pfX12 C G X (k := 399) kd_399 0 (x := y1) (ty := .int) rfl rfl (Nat.le_of_ble_eq_true rfl) (by decide) k_1651 rfl rfl (by decide +kernel) rfl rfl dX12_law_24 (fun H locs X => ?_)
  replace X := pu_x e24 X
  refine lv_aload_n C.1 C.2.1 dX12_law_27 rfl (lv_at hl 0 rfl) ?_
  refine gfX12 C G X (k := 399) kd_399 0 (v := .int (σ24 399 0)) rfl rfl (by decide) k_1651 rfl dX12_law_28 ?_
  refine lv_if_le (tgt := 36) C.1 C.2.1 dX12_law_31 (by decide) (fun c31 => ?_) (fun c31 => ?_)
  · replace h := ipos c31 h
    refine lv_aload_n C.1 C.2.1 dX12_law_36 rfl (lv_at hl 0 rfl) ?_
    refine gfX12 C G X (k := 399) kd_399 1 (v := .ref (gB E + 400)) rfl rfl (by decide) k_1652 rfl dX12_law_37 ?_
    refine lv_iconst (v := 1) C.1 C.2.1 dX12_law_40 (by decide) ?_
    refine lv_iload_n C.1 C.2.1 dX12_law_41 rfl (lv_at hl 1 rfl) ?_
    obtain ⟨σ42, e42, h⟩ := bnd h
    refine ast C G X (k := 400) kd_400 (au_s e42).1 dX12_law_42 (fun H locs X => ?_)
    rw [(au_s e42).2] at X
    refine lv_aload_n C.1 C.2.1 dX12_law_43 rfl (lv_at hl 0 rfl) ?_
    refine gfX12 C G X (k := 399) kd_399 1 (v := .ref (gB E + 400)) rfl rfl (by decide) k_1652 rfl dX12_law_44 ?_
    refine lv_iconst (v := 2) C.1 C.2.1 dX12_law_47 (by decide) ?_
    refine lv_aload_n C.1 C.2.1 dX12_law_48 rfl (lv_at hl 0 rfl) ?_
    refine gfX12 C G X (k := 399) kd_399 10 (v := .int (σ42 399 10)) rfl rfl (by decide) k_1661 rfl dX12_law_49 ?_
    obtain ⟨σ52, e52, h⟩ := bnd h
    refine ast C G X (k := 400) kd_400 (au_s e52).1 dX12_law_52 (fun H locs X => ?_)
    rw [(au_s e52).2] at X
    refine lv_iconst (v := 0) C.1 C.2.1 dX12_law_53 (by decide) ?_
    refine lv_istore_n (lv' := [(2, .int (0 : Int32)), (0, .ref (gB E + 399)), (1, .int x1)]) C.1 C.2.1 dX12_law_54 rfl hl (by decide) rfl (fun ls hl => ?_)
    exact w_X12_law_55 C G FU X (lv_sub hl [1, 2, 0] rfl) h
  · replace h := ineg c31 h
    refine lv_iconst (v := 0) C.1 C.2.1 dX12_law_34 (by decide) ?_
    rw [← Option.some.inj h]
    exact rtI C X dX12_law_35

set_option maxRecDepth 20000 in
theorem w_X12_law {r : (Int32 × Mem)} {σ : Mem} {ls : Array Slot} {H : Heap} {locs : List Loc} (C : Cx p s m args meth c cX12_law (some .int) 3 RX12) (G : Gf E s) (X : Hx E σ s H locs) (hl : lv_has ls 3 [(0, .ref (gB E + 399))]) (h : X12_law σ = some r) : W p l e (RM 203) s m args below meth c H locs 0 0 (QI E below args s r.1 r.2) (F0 m 0 ls []) := by
  rw [X12_law] at h
  refine lv_aload_n C.1 C.2.1 dX12_law_0 rfl (lv_at hl 0 rfl) ?_
  obtain ⟨σ1, e1, h⟩ := bnd h
  refine afV X (runV C G X q_X12_begins k_1746 kp_27 k_1744 (rcX12 G X kd_399) (c_X12_begins l E e1) rfl hl.1 rfl (Nat.le_of_ble_eq_true rfl) ⟨Nat.le_of_ble_eq_true rfl, Nat.le_of_ble_eq_true rfl⟩ ⟨Nat.le_of_ble_eq_true rfl, Nat.le_of_ble_eq_true rfl⟩ dX12_law_1) (fun H locs X => ?_)
  refine lv_aload_n C.1 C.2.1 dX12_law_4 rfl (lv_at hl 0 rfl) ?_
  refine lv_iconst (v := 1) C.1 C.2.1 dX12_law_5 (by decide) ?_
  obtain ⟨r6, σ6, e6, h⟩ := bnd2 h
  refine afI (r0 := r6) (σ' := σ6) X (runV C G X q_X12_read k_1750 kp_28 k_1748 (rcX12 G X kd_399) (c_X12_read l E e6) rfl hl.1 rfl (Nat.le_of_ble_eq_true rfl) ⟨Nat.le_of_ble_eq_true rfl, Nat.le_of_ble_eq_true rfl⟩ ⟨Nat.le_of_ble_eq_true rfl, Nat.le_of_ble_eq_true rfl⟩ dX12_law_6) (fun H locs X => ?_)
  refine lv_istore_n (lv' := [(1, .int r6), (0, .ref (gB E + 399))]) C.1 C.2.1 dX12_law_9 rfl hl (by decide) rfl (fun ls hl => ?_)
  refine lv_aload_n C.1 C.2.1 dX12_law_10 rfl (lv_at hl 1 rfl) ?_
  refine lv_aload_n C.1 C.2.1 dX12_law_11 rfl (lv_at hl 1 rfl) ?_
  refine gfX12 C G X (k := 399) kd_399 12 (v := .int (σ6 399 12)) rfl rfl (by decide) k_1663 rfl dX12_law_12 ?_
  refine lv_iconst (v := -1) C.1 C.2.1 dX12_law_15 (by decide) ?_
  refine lv_icmp_eq (tgt := 23) C.1 C.2.1 dX12_law_16 (by decide) (fun c16 => ?_) (fun c16 => ?_)
  · replace h := ipos c16 h
    refine lv_iconst (v := 0) C.1 C.2.1 dX12_law_23 (by decide) ?_
    exact w_X12_law_24 C G X (lv_sub hl [1, 0] rfl) h
  · replace h := ineg c16 h
    refine lv_iconst (v := 1) C.1 C.2.1 dX12_law_19 (by decide) ?_
    refine lv_goto (tgt := 24) C.1 C.2.1 dX12_law_20 (by decide) ?_
    exact w_X12_law_24 C G X (lv_sub hl [1, 0] rfl) h

theorem c_X12_law (l : Launch) (E : GE) {σ : Mem} {r : (Int32 × Mem)} (h : X12_law σ = some r) : CtI l E yX12_law cX12_law 3 .int 203 [.ref (gB E + 399)] σ r.1 r.2 := by
  refine Met.ofW (cc := cX12_law) (maxL := 3) (ret := (some .int)) (by decide) rfl ?_
  intro p e s m args below meth c s₁ B hml hv
  obtain ⟨rfl, G, X⟩ := start hv
  have C := cxof B hml
  have hl := lv_entry [.ref (gB E + 399)] (n := 3) (Nat.le_of_ble_eq_true rfl)
  rw [lg_entry_eq]
  generalize (lg_sl [.ref (gB E + 399)] ++ List.replicate (3 - (lg_sl [.ref (gB E + 399)]).length) Slot.unset).toArray = ls at hl ⊢
  exact w_X12_law C G X hl h

set_option maxRecDepth 20000 in
theorem w_X12_fault {r : (Int32 × Mem)} {σ : Mem} {ls : Array Slot} {H : Heap} {locs : List Loc} (C : Cx p s m args meth c cX12_fault (some .int) 1 RX12) (G : Gf E s) (X : Hx E σ s H locs) (hl : lv_has ls 1 [(0, .ref (gB E + 399))]) (h : X12_fault σ = some r) : W p l e (RM 1) s m args below meth c H locs 0 0 (QI E below args s r.1 r.2) (F0 m 0 ls []) := by
  rw [X12_fault] at h
  refine lv_aload_n C.1 C.2.1 dX12_fault_0 rfl (lv_at hl 0 rfl) ?_
  refine lv_iconst (v := 0) C.1 C.2.1 dX12_fault_1 (by decide) ?_
  obtain ⟨σ2, e2, h⟩ := bnd h
  refine pfX12 C G X (k := 399) kd_399 0 (x := (0 : Int32)) (ty := .int) rfl rfl (Nat.le_of_ble_eq_true rfl) (by decide) k_1651 rfl rfl (by decide +kernel) rfl rfl dX12_fault_2 (fun H locs X => ?_)
  replace X := pu_x e2 X
  refine lv_aload_n C.1 C.2.1 dX12_fault_5 rfl (lv_at hl 0 rfl) ?_
  refine gfX12 C G X (k := 399) kd_399 12 (v := .int (σ2 399 12)) rfl rfl (by decide) k_1663 rfl dX12_fault_6 ?_
  rw [← Option.some.inj h]
  exact rtI C X dX12_fault_9

theorem c_X12_fault (l : Launch) (E : GE) {σ : Mem} {r : (Int32 × Mem)} (h : X12_fault σ = some r) : CtI l E yX12_fault cX12_fault 1 .int 1 [.ref (gB E + 399)] σ r.1 r.2 := by
  refine Met.ofW (cc := cX12_fault) (maxL := 1) (ret := (some .int)) (by decide) rfl ?_
  intro p e s m args below meth c s₁ B hml hv
  obtain ⟨rfl, G, X⟩ := start hv
  have C := cxof B hml
  have hl := lv_entry [.ref (gB E + 399)] (n := 1) (Nat.le_of_ble_eq_true rfl)
  rw [lg_entry_eq]
  generalize (lg_sl [.ref (gB E + 399)] ++ List.replicate (1 - (lg_sl [.ref (gB E + 399)]).length) Slot.unset).toArray = ls at hl ⊢
  exact w_X12_fault C G X hl h

set_option maxRecDepth 20000 in
theorem w_X12_likesOwner {r : Int32} {σ : Mem} {x1 : Int32} {x2 : Int32} {ls : Array Slot} {H : Heap} {locs : List Loc} (C : Cx p s m args meth c cX12_likesOwner (some .int) 4 RX12) (G : Gf E s) (X : Hx E σ s H locs) (hl : lv_has ls 4 [(0, .ref (gB E + 399)), (1, .int x1), (2, .int x2)]) (h : X12_likesOwner σ x1 x2 = some r) : W p l e (RM 2) s m args below meth c H locs 0 0 (QI E below args s r σ) (F0 m 0 ls []) := by
  rw [X12_likesOwner] at h
  refine lv_aload_n C.1 C.2.1 dX12_likesOwner_0 rfl (lv_at hl 0 rfl) ?_
  refine lv_iload_n C.1 C.2.1 dX12_likesOwner_1 rfl (lv_at hl 2 rfl) ?_
  refine lv_iconst (v := 2) C.1 C.2.1 dX12_likesOwner_2 (by decide) ?_
  obtain ⟨r3, e3, h⟩ := bnd h
  refine afI X (runV C G X q_X12_of k_1855 kp_49 k_1853 (rcX12 G X kd_399) (c_X12_of l E e3) rfl hl.1 rfl (Nat.le_of_ble_eq_true rfl) ⟨Nat.le_of_ble_eq_true rfl, Nat.le_of_ble_eq_true rfl⟩ ⟨Nat.le_of_ble_eq_true rfl, Nat.le_of_ble_eq_true rfl⟩ dX12_likesOwner_3) (fun H locs X => ?_)
  refine lv_istore_n (lv' := [(3, .int r3), (0, .ref (gB E + 399)), (1, .int x1), (2, .int x2)]) C.1 C.2.1 dX12_likesOwner_6 rfl hl (by decide) rfl (fun ls hl => ?_)
  refine lv_iload_n C.1 C.2.1 dX12_likesOwner_7 rfl (lv_at hl 0 rfl) ?_
  refine lv_iconst (v := -1) C.1 C.2.1 dX12_likesOwner_8 (by decide) ?_
  refine lv_icmp_ne (tgt := 16) C.1 C.2.1 dX12_likesOwner_9 (by decide) (fun c9 => ?_) (fun c9 => ?_)
  · replace h := ineg c9 h
    refine lv_aload_n C.1 C.2.1 dX12_likesOwner_16 rfl (lv_at hl 1 rfl) ?_
    refine lv_iload_n C.1 C.2.1 dX12_likesOwner_17 rfl (lv_at hl 2 rfl) ?_
    refine lv_iload_n C.1 C.2.1 dX12_likesOwner_18 rfl (lv_at hl 0 rfl) ?_
    obtain ⟨r19, e19, h⟩ := bnd h
    refine afI X (runV C G X q_X12_liking k_1907 kp_58 k_1905 (rcX12 G X kd_399) (c_X12_liking l E e19) rfl hl.1 rfl (Nat.le_of_ble_eq_true rfl) ⟨Nat.le_of_ble_eq_true rfl, Nat.le_of_ble_eq_true rfl⟩ ⟨Nat.le_of_ble_eq_true rfl, Nat.le_of_ble_eq_true rfl⟩ dX12_likesOwner_19) (fun H locs X => ?_)
    rw [← Option.some.inj h]
    exact rtI C X dX12_likesOwner_22
  · replace h := ipos c9 h
    refine lv_iconst (v := 5) C.1 C.2.1 dX12_likesOwner_12 (by decide) ?_
    refine lv_goto (tgt := 22) C.1 C.2.1 dX12_likesOwner_13 (by decide) ?_
    rw [← Option.some.inj h]
    exact rtI C X dX12_likesOwner_22

theorem c_X12_likesOwner (l : Launch) (E : GE) {σ : Mem} {x1 : Int32} {x2 : Int32} {r : Int32} (h : X12_likesOwner σ x1 x2 = some r) : CtI l E yX12_likesOwner cX12_likesOwner 4 .int 2 [.ref (gB E + 399), .int x1, .int x2] σ r σ := by
  refine Met.ofW (cc := cX12_likesOwner) (maxL := 4) (ret := (some .int)) (by decide) rfl ?_
  intro p e s m args below meth c s₁ B hml hv
  obtain ⟨rfl, G, X⟩ := start hv
  have C := cxof B hml
  have hl := lv_entry [.ref (gB E + 399), .int x1, .int x2] (n := 4) (Nat.le_of_ble_eq_true rfl)
  rw [lg_entry_eq]
  generalize (lg_sl [.ref (gB E + 399), .int x1, .int x2] ++ List.replicate (4 - (lg_sl [.ref (gB E + 399), .int x1, .int x2]).length) Slot.unset).toArray = ls at hl ⊢
  exact w_X12_likesOwner C G X hl h

set_option maxRecDepth 20000 in
theorem w_X12_asks_138 {r : Mem} {σ : Mem} {x4 : Int32} {y1 : Int32} {ls : Array Slot} {H : Heap} {locs : List Loc} (C : Cx p s m args meth c cX12_asks none 6 RX12) (G : Gf E s) (X : Hx E σ s H locs) (hl : lv_has ls 6 [(0, .ref (gB E + 399)), (4, .int x4)]) (h : X12_asks_138 x4 y1 σ = some r) : W p l e (RM 203) s m args below meth c H locs 0 0 (QV E below args s r) (F0 m 138 ls [.int y1, .ref (gB E + 399)]) := by
  rw [X12_asks_138] at h
  obtain ⟨σ138, e138, h⟩ := bnd h
  refine pfX12 C G X (k := 399) kd_399 10 (x := y1) (ty := .int) rfl rfl (Nat.le_of_ble_eq_true rfl) (by decide) k_1661 rfl rfl (by decide +kernel) rfl rfl dX12_asks_138 (fun H locs X => ?_)
  replace X := pu_x e138 X
  refine lv_aload_n C.1 C.2.1 dX12_asks_141 rfl (lv_at hl 0 rfl) ?_
  refine lv_iconst (v := 0) C.1 C.2.1 dX12_asks_142 (by decide) ?_
  obtain ⟨σ143, e143, h⟩ := bnd h
  refine pfX12 C G X (k := 399) kd_399 11 (x := (0 : Int32)) (ty := .int) rfl rfl (Nat.le_of_ble_eq_true rfl) (by decide) k_1662 rfl rfl (by decide +kernel) rfl rfl dX12_asks_143 (fun H locs X => ?_)
  replace X := pu_x e143 X
  refine lv_aload_n C.1 C.2.1 dX12_asks_146 rfl (lv_at hl 0 rfl) ?_
  refine lv_iconst (v := 0) C.1 C.2.1 dX12_asks_147 (by decide) ?_
  obtain ⟨σ148, e148, h⟩ := bnd h
  refine pfX12 C G X (k := 399) kd_399 13 (x := (0 : Int32)) (ty := .int) rfl rfl (Nat.le_of_ble_eq_true rfl) (by decide) k_1664 rfl rfl (by decide +kernel) rfl rfl dX12_asks_148 (fun H locs X => ?_)
  replace X := pu_x e148 X
  refine lv_aload_n C.1 C.2.1 dX12_asks_151 rfl (lv_at hl 0 rfl) ?_
  refine lv_iconst (v := 1) C.1 C.2.1 dX12_asks_152 (by decide) ?_
  obtain ⟨r153, σ153, e153, h⟩ := bnd2 h
  refine afI (r0 := r153) (σ' := σ153) X (runV C G X q_X12_read k_1750 kp_28 k_1748 (rcX12 G X kd_399) (c_X12_read l E e153) rfl hl.1 rfl (Nat.le_of_ble_eq_true rfl) ⟨Nat.le_of_ble_eq_true rfl, Nat.le_of_ble_eq_true rfl⟩ ⟨Nat.le_of_ble_eq_true rfl, Nat.le_of_ble_eq_true rfl⟩ dX12_asks_153) (fun H locs X => ?_)
  refine lv_istore (lv' := [(5, .int r153), (0, .ref (gB E + 399)), (4, .int x4)]) C.1 C.2.1 dX12_asks_156 hl (by decide) rfl (fun ls hl => ?_)
  refine lv_aload_n C.1 C.2.1 dX12_asks_158 rfl (lv_at hl 1 rfl) ?_
  refine lv_iload C.1 C.2.1 dX12_asks_159 (lv_at hl 2 rfl) ?_
  obtain ⟨σ161, e161, h⟩ := bnd h
  refine pfX12 C G X (k := 399) kd_399 12 (x := x4) (ty := .int) rfl rfl (Nat.le_of_ble_eq_true rfl) (by decide) k_1663 rfl rfl (by decide +kernel) rfl rfl dX12_asks_161 (fun H locs X => ?_)
  replace X := pu_x e161 X
  rw [← Option.some.inj h]
  exact rtV C X dX12_asks_164

set_option maxRecDepth 20000 in
theorem w_X12_asks_96 {r : Mem} {σ : Mem} {y1 : Int32} {ls : Array Slot} {H : Heap} {locs : List Loc} (C : Cx p s m args meth c cX12_asks none 6 RX12) (G : Gf E s) (X : Hx E σ s H locs) (hl : lv_has ls 6 [(0, .ref (gB E + 399))]) (h : X12_asks_96 y1 σ = some r) : W p l e (RM 203) s m args below meth c H locs 0 0 (QV E below args s r) (F0 m 96 ls [.int y1, .ref (gB E + 399)]) := by
  rw [X12_asks_96] at h
  obtain ⟨u96, z96, h⟩ := bnd h
  obtain ⟨σ96, e96, h⟩ := bnd h
  refine pfX12 C G X (k := 399) kd_399 15 (x := y1) (ty := .boolean) rfl rfl (Nat.le_of_ble_eq_true rfl) (by decide) k_1666 rfl rfl (by decide +kernel) (gb_s z96).1 (gb_s z96).2 dX12_asks_96 (fun H locs X => ?_)
  replace X := pu_x e96 X
  refine lv_aload_n C.1 C.2.1 dX12_asks_99 rfl (lv_at hl 0 rfl) ?_
  refine gfX12 C G X (k := 399) kd_399 12 (v := .int (σ96 399 12)) rfl rfl (by decide) k_1663 rfl dX12_asks_100 ?_
  refine lv_istore (lv' := [(4, .int (σ96 399 12)), (0, .ref (gB E + 399))]) C.1 C.2.1 dX12_asks_103 hl (by decide) rfl (fun ls hl => ?_)
  refine lv_aload_n C.1 C.2.1 dX12_asks_105 rfl (lv_at hl 1 rfl) ?_
  refine lv_iconst (v := -1) C.1 C.2.1 dX12_asks_106 (by decide) ?_
  obtain ⟨σ107, e107, h⟩ := bnd h
  refine pfX12 C G X (k := 399) kd_399 12 (x := (-1 : Int32)) (ty := .int) rfl rfl (Nat.le_of_ble_eq_true rfl) (by decide) k_1663 rfl rfl (by decide +kernel) rfl rfl dX12_asks_107 (fun H locs X => ?_)
  replace X := pu_x e107 X
  refine lv_aload_n C.1 C.2.1 dX12_asks_110 rfl (lv_at hl 1 rfl) ?_
  refine lv_sipush (v := 488) C.1 C.2.1 dX12_asks_111 (by decide) ?_
  obtain ⟨σ114, e114, h⟩ := bnd h
  refine pfX12 C G X (k := 399) kd_399 9 (x := (488 : Int32)) (ty := .int) rfl rfl (Nat.le_of_ble_eq_true rfl) (by decide) k_1660 rfl rfl (by decide +kernel) rfl rfl dX12_asks_114 (fun H locs X => ?_)
  replace X := pu_x e114 X
  refine lv_aload_n C.1 C.2.1 dX12_asks_117 rfl (lv_at hl 1 rfl) ?_
  refine lv_aload_n C.1 C.2.1 dX12_asks_118 rfl (lv_at hl 1 rfl) ?_
  refine gfX12 C G X (k := 399) kd_399 1 (v := .ref (gB E + 400)) rfl rfl (by decide) k_1652 rfl dX12_asks_119 ?_
  refine lv_iconst (v := 1) C.1 C.2.1 dX12_asks_122 (by decide) ?_
  obtain ⟨r123, e123, h⟩ := bnd h
  refine ald C G X (k := 400) kd_400 (ag_s e123).1 dX12_asks_123 ?_
  rw [(ag_s e123).2]
  refine lv_iconst (v := 1) C.1 C.2.1 dX12_asks_124 (by decide) ?_
  refine lv_icmp_ge (tgt := 132) C.1 C.2.1 dX12_asks_125 (by decide) (fun c125 => ?_) (fun c125 => ?_)
  · replace h := ipos c125 h
    refine lv_aload_n C.1 C.2.1 dX12_asks_132 rfl (lv_at hl 1 rfl) ?_
    refine gfX12 C G X (k := 399) kd_399 1 (v := .ref (gB E + 400)) rfl rfl (by decide) k_1652 rfl dX12_asks_133 ?_
    refine lv_iconst (v := 2) C.1 C.2.1 dX12_asks_136 (by decide) ?_
    obtain ⟨r137, e137, h⟩ := bnd h
    refine ald C G X (k := 400) kd_400 (ag_s e137).1 dX12_asks_137 ?_
    rw [(ag_s e137).2]
    exact w_X12_asks_138 C G X (lv_sub hl [1, 0] rfl) h
  · replace h := ineg c125 h
    refine lv_iconst (v := 0) C.1 C.2.1 dX12_asks_128 (by decide) ?_
    refine lv_goto (tgt := 138) C.1 C.2.1 dX12_asks_129 (by decide) ?_
    exact w_X12_asks_138 C G X (lv_sub hl [1, 0] rfl) h

set_option maxRecDepth 20000 in
theorem w_X12_asks {r : Mem} {σ : Mem} {x1 : Int32} {x2 : Int32} {x3 : Int32} {ls : Array Slot} {H : Heap} {locs : List Loc} (C : Cx p s m args meth c cX12_asks none 6 RX12) (G : Gf E s) (X : Hx E σ s H locs) (hl : lv_has ls 6 [(0, .ref (gB E + 399)), (1, .int x1), (2, .int x2), (3, .int x3)]) (h : X12_asks x1 x2 x3 σ = some r) : W p l e (RM 203) s m args below meth c H locs 0 0 (QV E below args s r) (F0 m 0 ls []) := by
  rw [X12_asks] at h
  refine lv_aload_n C.1 C.2.1 dX12_asks_0 rfl (lv_at hl 0 rfl) ?_
  refine lv_iload_n C.1 C.2.1 dX12_asks_1 rfl (lv_at hl 3 rfl) ?_
  obtain ⟨σ2, e2, h⟩ := bnd h
  refine pfX12 C G X (k := 399) kd_399 16 (x := x3) (ty := .int) rfl rfl (Nat.le_of_ble_eq_true rfl) (by decide) k_1667 rfl rfl (by decide +kernel) rfl rfl dX12_asks_2 (fun H locs X => ?_)
  replace X := pu_x e2 X
  refine lv_aload_n C.1 C.2.1 dX12_asks_5 rfl (lv_at hl 0 rfl) ?_
  refine lv_iconst (v := 0) C.1 C.2.1 dX12_asks_6 (by decide) ?_
  obtain ⟨u7, z7, h⟩ := bnd h
  obtain ⟨σ7, e7, h⟩ := bnd h
  refine pfX12 C G X (k := 399) kd_399 17 (x := (0 : Int32)) (ty := .boolean) rfl rfl (Nat.le_of_ble_eq_true rfl) (by decide) k_1668 rfl rfl (by decide +kernel) (gb_s z7).1 (gb_s z7).2 dX12_asks_7 (fun H locs X => ?_)
  replace X := pu_x e7 X
  refine lv_aload_n C.1 C.2.1 dX12_asks_10 rfl (lv_at hl 0 rfl) ?_
  refine gfX12 C G X (k := 399) kd_399 14 (v := .ref (gB E + 405)) rfl rfl (by decide) k_1665 rfl dX12_asks_11 ?_
  refine lv_iconst (v := 0) C.1 C.2.1 dX12_asks_14 (by decide) ?_
  refine lv_iload_n C.1 C.2.1 dX12_asks_15 rfl (lv_at hl 1 rfl) ?_
  obtain ⟨σ16, e16, h⟩ := bnd h
  refine ast C G X (k := 405) kd_405 (au_s e16).1 dX12_asks_16 (fun H locs X => ?_)
  rw [(au_s e16).2] at X
  refine lv_aload_n C.1 C.2.1 dX12_asks_17 rfl (lv_at hl 0 rfl) ?_
  refine gfX12 C G X (k := 399) kd_399 14 (v := .ref (gB E + 405)) rfl rfl (by decide) k_1665 rfl dX12_asks_18 ?_
  refine lv_iconst (v := 1) C.1 C.2.1 dX12_asks_21 (by decide) ?_
  refine lv_iload_n C.1 C.2.1 dX12_asks_22 rfl (lv_at hl 2 rfl) ?_
  obtain ⟨σ23, e23, h⟩ := bnd h
  refine ast C G X (k := 405) kd_405 (au_s e23).1 dX12_asks_23 (fun H locs X => ?_)
  rw [(au_s e23).2] at X
  refine lv_aload_n C.1 C.2.1 dX12_asks_24 rfl (lv_at hl 0 rfl) ?_
  refine gfX12 C G X (k := 399) kd_399 14 (v := .ref (gB E + 405)) rfl rfl (by decide) k_1665 rfl dX12_asks_25 ?_
  refine lv_iconst (v := 2) C.1 C.2.1 dX12_asks_28 (by decide) ?_
  refine lv_aload_n C.1 C.2.1 dX12_asks_29 rfl (lv_at hl 0 rfl) ?_
  refine lv_iload_n C.1 C.2.1 dX12_asks_30 rfl (lv_at hl 2 rfl) ?_
  refine lv_iconst (v := 0) C.1 C.2.1 dX12_asks_31 (by decide) ?_
  obtain ⟨r32, e32, h⟩ := bnd h
  refine afI X (runV C G X q_X12_of k_1855 kp_49 k_1853 (rcX12 G X kd_399) (c_X12_of l E e32) rfl hl.1 rfl (Nat.le_of_ble_eq_true rfl) ⟨Nat.le_of_ble_eq_true rfl, Nat.le_of_ble_eq_true rfl⟩ ⟨Nat.le_of_ble_eq_true rfl, Nat.le_of_ble_eq_true rfl⟩ dX12_asks_32) (fun H locs X => ?_)
  obtain ⟨σ35, e35, h⟩ := bnd h
  refine ast C G X (k := 405) kd_405 (au_s e35).1 dX12_asks_35 (fun H locs X => ?_)
  rw [(au_s e35).2] at X
  refine lv_aload_n C.1 C.2.1 dX12_asks_36 rfl (lv_at hl 0 rfl) ?_
  refine gfX12 C G X (k := 399) kd_399 14 (v := .ref (gB E + 405)) rfl rfl (by decide) k_1665 rfl dX12_asks_37 ?_
  refine lv_iconst (v := 3) C.1 C.2.1 dX12_asks_40 (by decide) ?_
  refine lv_aload_n C.1 C.2.1 dX12_asks_41 rfl (lv_at hl 0 rfl) ?_
  refine lv_iload_n C.1 C.2.1 dX12_asks_42 rfl (lv_at hl 2 rfl) ?_
  refine lv_iconst (v := 3) C.1 C.2.1 dX12_asks_43 (by decide) ?_
  obtain ⟨r44, e44, h⟩ := bnd h
  refine afI X (runV C G X q_X12_of k_1855 kp_49 k_1853 (rcX12 G X kd_399) (c_X12_of l E e44) rfl hl.1 rfl (Nat.le_of_ble_eq_true rfl) ⟨Nat.le_of_ble_eq_true rfl, Nat.le_of_ble_eq_true rfl⟩ ⟨Nat.le_of_ble_eq_true rfl, Nat.le_of_ble_eq_true rfl⟩ dX12_asks_44) (fun H locs X => ?_)
  obtain ⟨σ47, e47, h⟩ := bnd h
  refine ast C G X (k := 405) kd_405 (au_s e47).1 dX12_asks_47 (fun H locs X => ?_)
  rw [(au_s e47).2] at X
  refine lv_aload_n C.1 C.2.1 dX12_asks_48 rfl (lv_at hl 0 rfl) ?_
  refine gfX12 C G X (k := 399) kd_399 14 (v := .ref (gB E + 405)) rfl rfl (by decide) k_1665 rfl dX12_asks_49 ?_
  refine lv_iconst (v := 4) C.1 C.2.1 dX12_asks_52 (by decide) ?_
  refine lv_aload_n C.1 C.2.1 dX12_asks_53 rfl (lv_at hl 0 rfl) ?_
  refine lv_iload_n C.1 C.2.1 dX12_asks_54 rfl (lv_at hl 1 rfl) ?_
  refine lv_iconst (v := 1) C.1 C.2.1 dX12_asks_55 (by decide) ?_
  obtain ⟨r56, e56, h⟩ := bnd h
  refine afI X (runV C G X q_X12_ofWalker k_1915 kp_60 k_1913 (rcX12 G X kd_399) (c_X12_ofWalker l E e56) rfl hl.1 rfl (Nat.le_of_ble_eq_true rfl) ⟨Nat.le_of_ble_eq_true rfl, Nat.le_of_ble_eq_true rfl⟩ ⟨Nat.le_of_ble_eq_true rfl, Nat.le_of_ble_eq_true rfl⟩ dX12_asks_56) (fun H locs X => ?_)
  obtain ⟨σ59, e59, h⟩ := bnd h
  refine ast C G X (k := 405) kd_405 (au_s e59).1 dX12_asks_59 (fun H locs X => ?_)
  rw [(au_s e59).2] at X
  refine lv_aload_n C.1 C.2.1 dX12_asks_60 rfl (lv_at hl 0 rfl) ?_
  refine gfX12 C G X (k := 399) kd_399 14 (v := .ref (gB E + 405)) rfl rfl (by decide) k_1665 rfl dX12_asks_61 ?_
  refine lv_iconst (v := 5) C.1 C.2.1 dX12_asks_64 (by decide) ?_
  refine lv_iload_n C.1 C.2.1 dX12_asks_65 rfl (lv_at hl 3 rfl) ?_
  obtain ⟨σ66, e66, h⟩ := bnd h
  refine ast C G X (k := 405) kd_405 (au_s e66).1 dX12_asks_66 (fun H locs X => ?_)
  rw [(au_s e66).2] at X
  refine lv_aload_n C.1 C.2.1 dX12_asks_67 rfl (lv_at hl 0 rfl) ?_
  refine gfX12 C G X (k := 399) kd_399 14 (v := .ref (gB E + 405)) rfl rfl (by decide) k_1665 rfl dX12_asks_68 ?_
  refine lv_bipush (v := 6) C.1 C.2.1 dX12_asks_71 (by decide) ?_
  refine lv_aload_n C.1 C.2.1 dX12_asks_73 rfl (lv_at hl 0 rfl) ?_
  refine gfX12 C G X (k := 399) kd_399 1 (v := .ref (gB E + 400)) rfl rfl (by decide) k_1652 rfl dX12_asks_74 ?_
  refine lv_iconst (v := 5) C.1 C.2.1 dX12_asks_77 (by decide) ?_
  obtain ⟨r78, e78, h⟩ := bnd h
  refine ald C G X (k := 400) kd_400 (ag_s e78).1 dX12_asks_78 ?_
  rw [(ag_s e78).2]
  obtain ⟨σ79, e79, h⟩ := bnd h
  refine ast C G X (k := 405) kd_405 (au_s e79).1 dX12_asks_79 (fun H locs X => ?_)
  rw [(au_s e79).2] at X
  refine lv_aload_n C.1 C.2.1 dX12_asks_80 rfl (lv_at hl 0 rfl) ?_
  refine lv_aload_n C.1 C.2.1 dX12_asks_81 rfl (lv_at hl 0 rfl) ?_
  refine lv_iload_n C.1 C.2.1 dX12_asks_82 rfl (lv_at hl 2 rfl) ?_
  refine lv_iconst (v := 2) C.1 C.2.1 dX12_asks_83 (by decide) ?_
  obtain ⟨r84, e84, h⟩ := bnd h
  refine afI X (runV C G X q_X12_of k_1855 kp_49 k_1853 (rcX12 G X kd_399) (c_X12_of l E e84) rfl hl.1 rfl (Nat.le_of_ble_eq_true rfl) ⟨Nat.le_of_ble_eq_true rfl, Nat.le_of_ble_eq_true rfl⟩ ⟨Nat.le_of_ble_eq_true rfl, Nat.le_of_ble_eq_true rfl⟩ dX12_asks_84) (fun H locs X => ?_)
  refine lv_iconst (v := -1) C.1 C.2.1 dX12_asks_87 (by decide) ?_
  refine lv_icmp_eq (tgt := 95) C.1 C.2.1 dX12_asks_88 (by decide) (fun c88 => ?_) (fun c88 => ?_)
  · replace h := ipos c88 h
    refine lv_iconst (v := 0) C.1 C.2.1 dX12_asks_95 (by decide) ?_
    exact w_X12_asks_96 C G X (lv_sub hl [0] rfl) h
  · replace h := ineg c88 h
    refine lv_iconst (v := 1) C.1 C.2.1 dX12_asks_91 (by decide) ?_
    refine lv_goto (tgt := 96) C.1 C.2.1 dX12_asks_92 (by decide) ?_
    exact w_X12_asks_96 C G X (lv_sub hl [0] rfl) h

theorem c_X12_asks (l : Launch) (E : GE) {σ : Mem} {x1 : Int32} {x2 : Int32} {x3 : Int32} {r : Mem} (h : X12_asks x1 x2 x3 σ = some r) : CtV l E yX12_asks cX12_asks 6 203 [.ref (gB E + 399), .int x1, .int x2, .int x3] σ r := by
  refine Met.ofW (cc := cX12_asks) (maxL := 6) (ret := none) (by decide) rfl ?_
  intro p e s m args below meth c s₁ B hml hv
  obtain ⟨rfl, G, X⟩ := start hv
  have C := cxof B hml
  have hl := lv_entry [.ref (gB E + 399), .int x1, .int x2, .int x3] (n := 6) (Nat.le_of_ble_eq_true rfl)
  rw [lg_entry_eq]
  generalize (lg_sl [.ref (gB E + 399), .int x1, .int x2, .int x3] ++ List.replicate (6 - (lg_sl [.ref (gB E + 399), .int x1, .int x2, .int x3]).length) Slot.unset).toArray = ls at hl ⊢
  exact w_X12_asks C G X hl h

set_option maxRecDepth 20000 in
theorem w_X12_wouldLight {r : (Int32 × Mem)} {σ : Mem} {x1 : Int32} {x2 : Int32} {x3 : Int32} {ls : Array Slot} {H : Heap} {locs : List Loc} (C : Cx p s m args meth c cX12_wouldLight (some .boolean) 4 RX12) (G : Gf E s) (X : Hx E σ s H locs) (hl : lv_has ls 4 [(0, .ref (gB E + 399)), (1, .int x1), (2, .int x2), (3, .int x3)]) (h : X12_wouldLight x1 x2 x3 σ = some r) : W p l e (RM 204) s m args below meth c H locs 0 0 (QI E below args s r.1 r.2) (F0 m 0 ls []) := by
  rw [X12_wouldLight] at h
  refine lv_aload_n C.1 C.2.1 dX12_wouldLight_0 rfl (lv_at hl 0 rfl) ?_
  refine lv_iload_n C.1 C.2.1 dX12_wouldLight_1 rfl (lv_at hl 1 rfl) ?_
  refine lv_iconst (v := 1) C.1 C.2.1 dX12_wouldLight_2 (by decide) ?_
  obtain ⟨r3, e3, h⟩ := bnd h
  refine afI X (runV C G X q_X12_ofWalker k_1915 kp_60 k_1913 (rcX12 G X kd_399) (c_X12_ofWalker l E e3) rfl hl.1 rfl (Nat.le_of_ble_eq_true rfl) ⟨Nat.le_of_ble_eq_true rfl, Nat.le_of_ble_eq_true rfl⟩ ⟨Nat.le_of_ble_eq_true rfl, Nat.le_of_ble_eq_true rfl⟩ dX12_wouldLight_3) (fun H locs X => ?_)
  refine lv_if_eq (tgt := 38) C.1 C.2.1 dX12_wouldLight_6 (by decide) (fun c6 => ?_) (fun c6 => ?_)
  · replace h := ipos c6 h
    refine lv_iconst (v := 0) C.1 C.2.1 dX12_wouldLight_38 (by decide) ?_
    obtain ⟨u39, z39, h⟩ := bnd h
    rw [← Option.some.inj h]
    exact rtZ C X (gb_s z39) dX12_wouldLight_39
  · replace h := ineg c6 h
    refine lv_aload_n C.1 C.2.1 dX12_wouldLight_9 rfl (lv_at hl 0 rfl) ?_
    refine lv_iload_n C.1 C.2.1 dX12_wouldLight_10 rfl (lv_at hl 2 rfl) ?_
    refine lv_iconst (v := 1) C.1 C.2.1 dX12_wouldLight_11 (by decide) ?_
    obtain ⟨r12, e12, h⟩ := bnd h
    refine afI X (runV C G X q_X12_of k_1855 kp_49 k_1853 (rcX12 G X kd_399) (c_X12_of l E e12) rfl hl.1 rfl (Nat.le_of_ble_eq_true rfl) ⟨Nat.le_of_ble_eq_true rfl, Nat.le_of_ble_eq_true rfl⟩ ⟨Nat.le_of_ble_eq_true rfl, Nat.le_of_ble_eq_true rfl⟩ dX12_wouldLight_12) (fun H locs X => ?_)
    refine lv_iconst (v := 1) C.1 C.2.1 dX12_wouldLight_15 (by decide) ?_
    refine lv_icmp_eq (tgt := 38) C.1 C.2.1 dX12_wouldLight_16 (by decide) (fun c16 => ?_) (fun c16 => ?_)
    · replace h := ipos c16 h
      refine lv_iconst (v := 0) C.1 C.2.1 dX12_wouldLight_38 (by decide) ?_
      obtain ⟨u39, z39, h⟩ := bnd h
      rw [← Option.some.inj h]
      exact rtZ C X (gb_s z39) dX12_wouldLight_39
    · replace h := ineg c16 h
      refine lv_aload_n C.1 C.2.1 dX12_wouldLight_19 rfl (lv_at hl 0 rfl) ?_
      refine lv_iload_n C.1 C.2.1 dX12_wouldLight_20 rfl (lv_at hl 2 rfl) ?_
      refine lv_iconst (v := 0) C.1 C.2.1 dX12_wouldLight_21 (by decide) ?_
      obtain ⟨r22, e22, h⟩ := bnd h
      refine afI X (runV C G X q_X12_of k_1855 kp_49 k_1853 (rcX12 G X kd_399) (c_X12_of l E e22) rfl hl.1 rfl (Nat.le_of_ble_eq_true rfl) ⟨Nat.le_of_ble_eq_true rfl, Nat.le_of_ble_eq_true rfl⟩ ⟨Nat.le_of_ble_eq_true rfl, Nat.le_of_ble_eq_true rfl⟩ dX12_wouldLight_22) (fun H locs X => ?_)
      refine lv_if_eq (tgt := 38) C.1 C.2.1 dX12_wouldLight_25 (by decide) (fun c25 => ?_) (fun c25 => ?_)
      · replace h := ipos c25 h
        refine lv_iconst (v := 0) C.1 C.2.1 dX12_wouldLight_38 (by decide) ?_
        obtain ⟨u39, z39, h⟩ := bnd h
        rw [← Option.some.inj h]
        exact rtZ C X (gb_s z39) dX12_wouldLight_39
      · replace h := ineg c25 h
        refine lv_aload_n C.1 C.2.1 dX12_wouldLight_28 rfl (lv_at hl 0 rfl) ?_
        refine lv_iload_n C.1 C.2.1 dX12_wouldLight_29 rfl (lv_at hl 2 rfl) ?_
        refine lv_iconst (v := 2) C.1 C.2.1 dX12_wouldLight_30 (by decide) ?_
        obtain ⟨r31, e31, h⟩ := bnd h
        refine afI X (runV C G X q_X12_of k_1855 kp_49 k_1853 (rcX12 G X kd_399) (c_X12_of l E e31) rfl hl.1 rfl (Nat.le_of_ble_eq_true rfl) ⟨Nat.le_of_ble_eq_true rfl, Nat.le_of_ble_eq_true rfl⟩ ⟨Nat.le_of_ble_eq_true rfl, Nat.le_of_ble_eq_true rfl⟩ dX12_wouldLight_31) (fun H locs X => ?_)
        refine lv_iload_n C.1 C.2.1 dX12_wouldLight_34 rfl (lv_at hl 1 rfl) ?_
        refine lv_icmp_ne (tgt := 40) C.1 C.2.1 dX12_wouldLight_35 (by decide) (fun c35 => ?_) (fun c35 => ?_)
        · replace h := ineg c35 h
          refine lv_aload_n C.1 C.2.1 dX12_wouldLight_40 rfl (lv_at hl 0 rfl) ?_
          refine lv_iload_n C.1 C.2.1 dX12_wouldLight_41 rfl (lv_at hl 1 rfl) ?_
          refine lv_iload_n C.1 C.2.1 dX12_wouldLight_42 rfl (lv_at hl 2 rfl) ?_
          refine lv_iload_n C.1 C.2.1 dX12_wouldLight_43 rfl (lv_at hl 3 rfl) ?_
          obtain ⟨σ44, e44, h⟩ := bnd h
          refine afV X (runV C G X q_X12_asks k_1919 kp_61 k_1917 (rcX12 G X kd_399) (c_X12_asks l E e44) rfl hl.1 rfl (Nat.le_of_ble_eq_true rfl) ⟨Nat.le_of_ble_eq_true rfl, Nat.le_of_ble_eq_true rfl⟩ ⟨Nat.le_of_ble_eq_true rfl, Nat.le_of_ble_eq_true rfl⟩ dX12_wouldLight_44) (fun H locs X => ?_)
          refine lv_aload_n C.1 C.2.1 dX12_wouldLight_47 rfl (lv_at hl 0 rfl) ?_
          refine gfX12 C G X (k := 399) kd_399 16 (v := .int (σ44 399 16)) rfl rfl (by decide) k_1667 rfl dX12_wouldLight_48 ?_
          refine lv_iconst (v := 5) C.1 C.2.1 dX12_wouldLight_51 (by decide) ?_
          refine lv_icmp_lt (tgt := 66) C.1 C.2.1 dX12_wouldLight_52 (by decide) (fun c52 => ?_) (fun c52 => ?_)
          · replace h := ipos c52 h
            refine lv_iconst (v := 0) C.1 C.2.1 dX12_wouldLight_66 (by decide) ?_
            obtain ⟨u67, z67, h⟩ := bnd h
            rw [← Option.some.inj h]
            exact rtZ C X (gb_s z67) dX12_wouldLight_67
          · replace h := ineg c52 h
            refine lv_aload_n C.1 C.2.1 dX12_wouldLight_55 rfl (lv_at hl 0 rfl) ?_
            refine gfX12 C G X (k := 399) kd_399 17 (v := .int (σ44 399 17)) rfl rfl (by decide) k_1668 rfl dX12_wouldLight_56 ?_
            refine lv_if_ne (tgt := 66) C.1 C.2.1 dX12_wouldLight_59 (by decide) (fun c59 => ?_) (fun c59 => ?_)
            · replace h := ineg c59 h
              refine lv_iconst (v := 0) C.1 C.2.1 dX12_wouldLight_66 (by decide) ?_
              obtain ⟨u67, z67, h⟩ := bnd h
              rw [← Option.some.inj h]
              exact rtZ C X (gb_s z67) dX12_wouldLight_67
            · replace h := ipos c59 h
              refine lv_iconst (v := 1) C.1 C.2.1 dX12_wouldLight_62 (by decide) ?_
              refine lv_goto (tgt := 67) C.1 C.2.1 dX12_wouldLight_63 (by decide) ?_
              obtain ⟨u67, z67, h⟩ := bnd h
              rw [← Option.some.inj h]
              exact rtZ C X (gb_s z67) dX12_wouldLight_67
        · replace h := ipos c35 h
          refine lv_iconst (v := 0) C.1 C.2.1 dX12_wouldLight_38 (by decide) ?_
          obtain ⟨u39, z39, h⟩ := bnd h
          rw [← Option.some.inj h]
          exact rtZ C X (gb_s z39) dX12_wouldLight_39

theorem c_X12_wouldLight (l : Launch) (E : GE) {σ : Mem} {x1 : Int32} {x2 : Int32} {x3 : Int32} {r : (Int32 × Mem)} (h : X12_wouldLight x1 x2 x3 σ = some r) : CtI l E yX12_wouldLight cX12_wouldLight 4 .boolean 204 [.ref (gB E + 399), .int x1, .int x2, .int x3] σ r.1 r.2 := by
  refine Met.ofW (cc := cX12_wouldLight) (maxL := 4) (ret := (some .boolean)) (by decide) rfl ?_
  intro p e s m args below meth c s₁ B hml hv
  obtain ⟨rfl, G, X⟩ := start hv
  have C := cxof B hml
  have hl := lv_entry [.ref (gB E + 399), .int x1, .int x2, .int x3] (n := 4) (Nat.le_of_ble_eq_true rfl)
  rw [lg_entry_eq]
  generalize (lg_sl [.ref (gB E + 399), .int x1, .int x2, .int x3] ++ List.replicate (4 - (lg_sl [.ref (gB E + 399), .int x1, .int x2, .int x3]).length) Slot.unset).toArray = ls at hl ⊢
  exact w_X12_wouldLight C G X hl h

set_option maxRecDepth 20000 in
theorem w_X12_doesLight {r : (Int32 × Mem)} {σ : Mem} {x1 : Int32} {x2 : Int32} {ls : Array Slot} {H : Heap} {locs : List Loc} (C : Cx p s m args meth c cX12_doesLight (some .boolean) 3 RX12) (G : Gf E s) (X : Hx E σ s H locs) (hl : lv_has ls 3 [(0, .ref (gB E + 399)), (1, .int x1), (2, .int x2)]) (h : X12_doesLight x1 x2 σ = some r) : W p l e (RM 205) s m args below meth c H locs 0 0 (QI E below args s r.1 r.2) (F0 m 0 ls []) := by
  rw [X12_doesLight] at h
  refine lv_aload_n C.1 C.2.1 dX12_doesLight_0 rfl (lv_at hl 0 rfl) ?_
  refine lv_iload_n C.1 C.2.1 dX12_doesLight_1 rfl (lv_at hl 1 rfl) ?_
  refine lv_iload_n C.1 C.2.1 dX12_doesLight_2 rfl (lv_at hl 2 rfl) ?_
  refine lv_aload_n C.1 C.2.1 dX12_doesLight_3 rfl (lv_at hl 0 rfl) ?_
  refine lv_iload_n C.1 C.2.1 dX12_doesLight_4 rfl (lv_at hl 1 rfl) ?_
  refine lv_iload_n C.1 C.2.1 dX12_doesLight_5 rfl (lv_at hl 2 rfl) ?_
  obtain ⟨r6, e6, h⟩ := bnd h
  refine afI X (runV C G X q_X12_likesOwner k_1903 kp_57 k_1901 (rcX12 G X kd_399) (c_X12_likesOwner l E e6) rfl hl.1 rfl (Nat.le_of_ble_eq_true rfl) ⟨Nat.le_of_ble_eq_true rfl, Nat.le_of_ble_eq_true rfl⟩ ⟨Nat.le_of_ble_eq_true rfl, Nat.le_of_ble_eq_true rfl⟩ dX12_doesLight_6) (fun H locs X => ?_)
  obtain ⟨r9, σ9, e9, h⟩ := bnd2 h
  refine afI (r0 := r9) (σ' := σ9) X (runV C G X q_X12_wouldLight k_1911 kp_59 k_1909 (rcX12 G X kd_399) (c_X12_wouldLight l E e9) rfl hl.1 rfl (Nat.le_of_ble_eq_true rfl) ⟨Nat.le_of_ble_eq_true rfl, Nat.le_of_ble_eq_true rfl⟩ ⟨Nat.le_of_ble_eq_true rfl, Nat.le_of_ble_eq_true rfl⟩ dX12_doesLight_9) (fun H locs X => ?_)
  obtain ⟨u12, z12, h⟩ := bnd h
  rw [← Option.some.inj h]
  exact rtZ C X (gb_s z12) dX12_doesLight_12

theorem c_X12_doesLight (l : Launch) (E : GE) {σ : Mem} {x1 : Int32} {x2 : Int32} {r : (Int32 × Mem)} (h : X12_doesLight x1 x2 σ = some r) : CtI l E yX12_doesLight cX12_doesLight 3 .boolean 205 [.ref (gB E + 399), .int x1, .int x2] σ r.1 r.2 := by
  refine Met.ofW (cc := cX12_doesLight) (maxL := 3) (ret := (some .boolean)) (by decide) rfl ?_
  intro p e s m args below meth c s₁ B hml hv
  obtain ⟨rfl, G, X⟩ := start hv
  have C := cxof B hml
  have hl := lv_entry [.ref (gB E + 399), .int x1, .int x2] (n := 3) (Nat.le_of_ble_eq_true rfl)
  rw [lg_entry_eq]
  generalize (lg_sl [.ref (gB E + 399), .int x1, .int x2] ++ List.replicate (3 - (lg_sl [.ref (gB E + 399), .int x1, .int x2]).length) Slot.unset).toArray = ls at hl ⊢
  exact w_X12_doesLight C G X hl h

set_option maxRecDepth 20000 in
theorem w_X12_draw {r : (Int32 × Mem)} {σ : Mem} {x1 : Int32} {ls : Array Slot} {H : Heap} {locs : List Loc} (C : Cx p s m args meth c cX12_draw (some .int) 2 RX12) (G : Gf E s) (X : Hx E σ s H locs) (hl : lv_has ls 2 [(0, .ref (gB E + 399)), (1, .int x1)]) (h : X12_draw x1 σ = some r) : W p l e (RM 1) s m args below meth c H locs 0 0 (QI E below args s r.1 r.2) (F0 m 0 ls []) := by
  rw [X12_draw] at h
  refine lv_aload_n C.1 C.2.1 dX12_draw_0 rfl (lv_at hl 0 rfl) ?_
  refine gfX12 C G X (k := 399) kd_399 1 (v := .ref (gB E + 400)) rfl rfl (by decide) k_1652 rfl dX12_draw_1 ?_
  refine lv_bipush (v := 10) C.1 C.2.1 dX12_draw_4 (by decide) ?_
  refine lv_ldc C.1 C.2.1 C.hown (C.ts _ k_1933) dX12_draw_6 ?_
  refine lv_aload_n C.1 C.2.1 dX12_draw_8 rfl (lv_at hl 0 rfl) ?_
  refine gfX12 C G X (k := 399) kd_399 1 (v := .ref (gB E + 400)) rfl rfl (by decide) k_1652 rfl dX12_draw_9 ?_
  refine lv_bipush (v := 10) C.1 C.2.1 dX12_draw_12 (by decide) ?_
  obtain ⟨r14, e14, h⟩ := bnd h
  refine ald C G X (k := 400) kd_400 (ag_s e14).1 dX12_draw_14 ?_
  rw [(ag_s e14).2]
  refine lv_imul C.1 C.2.1 dX12_draw_15 ?_
  refine lv_sipush (v := 12345) C.1 C.2.1 dX12_draw_16 (by decide) ?_
  refine lv_iadd C.1 C.2.1 dX12_draw_19 ?_
  obtain ⟨σ20, e20, h⟩ := bnd h
  refine ast C G X (k := 400) kd_400 (au_s e20).1 dX12_draw_20 (fun H locs X => ?_)
  rw [(au_s e20).2] at X
  refine lv_aload_n C.1 C.2.1 dX12_draw_21 rfl (lv_at hl 0 rfl) ?_
  refine gfX12 C G X (k := 399) kd_399 1 (v := .ref (gB E + 400)) rfl rfl (by decide) k_1652 rfl dX12_draw_22 ?_
  refine lv_bipush (v := 10) C.1 C.2.1 dX12_draw_25 (by decide) ?_
  obtain ⟨r27, e27, h⟩ := bnd h
  refine ald C G X (k := 400) kd_400 (ag_s e27).1 dX12_draw_27 ?_
  rw [(ag_s e27).2]
  refine lv_bipush (v := 16) C.1 C.2.1 dX12_draw_28 (by decide) ?_
  refine lv_iushr C.1 C.2.1 dX12_draw_30 rfl ?_
  refine lv_sipush (v := 32767) C.1 C.2.1 dX12_draw_31 (by decide) ?_
  refine lv_iand C.1 C.2.1 dX12_draw_34 ?_
  refine lv_iload_n C.1 C.2.1 dX12_draw_35 rfl (lv_at hl 1 rfl) ?_
  obtain ⟨u36, z36, h⟩ := bnd h
  refine lv_irem C.1 C.2.1 dX12_draw_36 (gz_s z36) ?_
  rw [← Option.some.inj h]
  exact rtI C X dX12_draw_37

theorem c_X12_draw (l : Launch) (E : GE) {σ : Mem} {x1 : Int32} {r : (Int32 × Mem)} (h : X12_draw x1 σ = some r) : CtI l E yX12_draw cX12_draw 2 .int 1 [.ref (gB E + 399), .int x1] σ r.1 r.2 := by
  refine Met.ofW (cc := cX12_draw) (maxL := 2) (ret := (some .int)) (by decide) rfl ?_
  intro p e s m args below meth c s₁ B hml hv
  obtain ⟨rfl, G, X⟩ := start hv
  have C := cxof B hml
  have hl := lv_entry [.ref (gB E + 399), .int x1] (n := 2) (Nat.le_of_ble_eq_true rfl)
  rw [lg_entry_eq]
  generalize (lg_sl [.ref (gB E + 399), .int x1] ++ List.replicate (2 - (lg_sl [.ref (gB E + 399), .int x1]).length) Slot.unset).toArray = ls at hl ⊢
  exact w_X12_draw C G X hl h

set_option maxRecDepth 20000 in
theorem w_X12_logs_5 {r : Mem} (C : Cx p s m args meth c cX12_logs none 5 RX12) (G : Gf E s) : ∀ (f : Nat) {x1 : Int32} {x2 : Int32} {x3 : Int32} {x4 : Int32} {σ : Mem} {ls : Array Slot} {H : Heap} {locs : List Loc}, Hx E σ s H locs → lv_has ls 5 [(0, .ref (gB E + 399)), (1, .int x1), (2, .int x2), (3, .int x3), (4, .int x4)] → X12_logs_5 f x1 x2 x3 x4 σ = some r → W p l e (RM 2) s m args below meth c H locs 0 0 (QV E below args s r) (F0 m 5 ls []) := by
  intro f
  induction f with
  | zero =>
    intro x1 x2 x3 x4 σ ls H locs X hl h
    rw [X12_logs_5] at h
    cases h
  | succ f ih =>
    intro x1 x2 x3 x4 σ ls H locs X hl h
    rw [X12_logs_5] at h
    refine lv_iload C.1 C.2.1 dX12_logs_5 (lv_at hl 4 rfl) ?_
    refine lv_iconst (v := 5) C.1 C.2.1 dX12_logs_7 (by decide) ?_
    refine lv_icmp_lt (tgt := 41) C.1 C.2.1 dX12_logs_8 (by decide) (fun c8 => ?_) (fun c8 => ?_)
    · replace h := ipos c8 h
      refine lv_aload_n C.1 C.2.1 dX12_logs_41 rfl (lv_at hl 0 rfl) ?_
      refine gfX12 C G X (k := 399) kd_399 1 (v := .ref (gB E + 400)) rfl rfl (by decide) k_1652 rfl dX12_logs_42 ?_
      refine lv_sipush (v := 188) C.1 C.2.1 dX12_logs_45 (by decide) ?_
      refine lv_aload_n C.1 C.2.1 dX12_logs_48 rfl (lv_at hl 0 rfl) ?_
      refine gfX12 C G X (k := 399) kd_399 1 (v := .ref (gB E + 400)) rfl rfl (by decide) k_1652 rfl dX12_logs_49 ?_
      refine lv_bipush (v := 6) C.1 C.2.1 dX12_logs_52 (by decide) ?_
      obtain ⟨r54, e54, h⟩ := bnd h
      refine ald C G X (k := 400) kd_400 (ag_s e54).1 dX12_logs_54 ?_
      rw [(ag_s e54).2]
      obtain ⟨σ55, e55, h⟩ := bnd h
      refine ast C G X (k := 400) kd_400 (au_s e55).1 dX12_logs_55 (fun H locs X => ?_)
      rw [(au_s e55).2] at X
      refine lv_aload_n C.1 C.2.1 dX12_logs_56 rfl (lv_at hl 0 rfl) ?_
      refine gfX12 C G X (k := 399) kd_399 1 (v := .ref (gB E + 400)) rfl rfl (by decide) k_1652 rfl dX12_logs_57 ?_
      refine lv_sipush (v := 189) C.1 C.2.1 dX12_logs_60 (by decide) ?_
      refine lv_aload_n C.1 C.2.1 dX12_logs_63 rfl (lv_at hl 0 rfl) ?_
      refine gfX12 C G X (k := 399) kd_399 1 (v := .ref (gB E + 400)) rfl rfl (by decide) k_1652 rfl dX12_logs_64 ?_
      refine lv_iconst (v := 5) C.1 C.2.1 dX12_logs_67 (by decide) ?_
      obtain ⟨r68, e68, h⟩ := bnd h
      refine ald C G X (k := 400) kd_400 (ag_s e68).1 dX12_logs_68 ?_
      rw [(ag_s e68).2]
      obtain ⟨σ69, e69, h⟩ := bnd h
      refine ast C G X (k := 400) kd_400 (au_s e69).1 dX12_logs_69 (fun H locs X => ?_)
      rw [(au_s e69).2] at X
      refine lv_aload_n C.1 C.2.1 dX12_logs_70 rfl (lv_at hl 0 rfl) ?_
      refine gfX12 C G X (k := 399) kd_399 1 (v := .ref (gB E + 400)) rfl rfl (by decide) k_1652 rfl dX12_logs_71 ?_
      refine lv_sipush (v := 190) C.1 C.2.1 dX12_logs_74 (by decide) ?_
      refine lv_iload_n C.1 C.2.1 dX12_logs_77 rfl (lv_at hl 1 rfl) ?_
      obtain ⟨σ78, e78, h⟩ := bnd h
      refine ast C G X (k := 400) kd_400 (au_s e78).1 dX12_logs_78 (fun H locs X => ?_)
      rw [(au_s e78).2] at X
      refine lv_aload_n C.1 C.2.1 dX12_logs_79 rfl (lv_at hl 0 rfl) ?_
      refine gfX12 C G X (k := 399) kd_399 1 (v := .ref (gB E + 400)) rfl rfl (by decide) k_1652 rfl dX12_logs_80 ?_
      refine lv_sipush (v := 191) C.1 C.2.1 dX12_logs_83 (by decide) ?_
      refine lv_iload_n C.1 C.2.1 dX12_logs_86 rfl (lv_at hl 2 rfl) ?_
      obtain ⟨σ87, e87, h⟩ := bnd h
      refine ast C G X (k := 400) kd_400 (au_s e87).1 dX12_logs_87 (fun H locs X => ?_)
      rw [(au_s e87).2] at X
      refine lv_aload_n C.1 C.2.1 dX12_logs_88 rfl (lv_at hl 0 rfl) ?_
      refine gfX12 C G X (k := 399) kd_399 1 (v := .ref (gB E + 400)) rfl rfl (by decide) k_1652 rfl dX12_logs_89 ?_
      refine lv_sipush (v := 192) C.1 C.2.1 dX12_logs_92 (by decide) ?_
      refine lv_iload_n C.1 C.2.1 dX12_logs_95 rfl (lv_at hl 3 rfl) ?_
      obtain ⟨σ96, e96, h⟩ := bnd h
      refine ast C G X (k := 400) kd_400 (au_s e96).1 dX12_logs_96 (fun H locs X => ?_)
      rw [(au_s e96).2] at X
      refine lv_aload_n C.1 C.2.1 dX12_logs_97 rfl (lv_at hl 0 rfl) ?_
      refine gfX12 C G X (k := 399) kd_399 1 (v := .ref (gB E + 400)) rfl rfl (by decide) k_1652 rfl dX12_logs_98 ?_
      refine lv_bipush (v := 9) C.1 C.2.1 dX12_logs_101 (by decide) ?_
      refine lv_bipush (v := 60) C.1 C.2.1 dX12_logs_103 (by decide) ?_
      refine lv_aload_n C.1 C.2.1 dX12_logs_105 rfl (lv_at hl 0 rfl) ?_
      refine gfX12 C G X (k := 399) kd_399 1 (v := .ref (gB E + 400)) rfl rfl (by decide) k_1652 rfl dX12_logs_106 ?_
      refine lv_bipush (v := 9) C.1 C.2.1 dX12_logs_109 (by decide) ?_
      obtain ⟨r111, e111, h⟩ := bnd h
      refine ald C G X (k := 400) kd_400 (ag_s e111).1 dX12_logs_111 ?_
      rw [(ag_s e111).2]
      refine lv_iconst (v := 1) C.1 C.2.1 dX12_logs_112 (by decide) ?_
      refine lv_iadd C.1 C.2.1 dX12_logs_113 ?_
      obtain ⟨r114, e114, h⟩ := bnd h
      refine afI X (runS C G X q_X12_lesser k_1958 k_1957 (c_X12_lesser l E e114) rfl hl.1 rfl (Nat.le_of_ble_eq_true rfl) ⟨Nat.le_of_ble_eq_true rfl, Nat.le_of_ble_eq_true rfl⟩ ⟨Nat.le_of_ble_eq_true rfl, Nat.le_of_ble_eq_true rfl⟩ dX12_logs_114) (fun H locs X => ?_)
      obtain ⟨σ117, e117, h⟩ := bnd h
      refine ast C G X (k := 400) kd_400 (au_s e117).1 dX12_logs_117 (fun H locs X => ?_)
      rw [(au_s e117).2] at X
      rw [← Option.some.inj h]
      exact rtV C X dX12_logs_118
    · replace h := ineg c8 h
      refine lv_aload_n C.1 C.2.1 dX12_logs_11 rfl (lv_at hl 0 rfl) ?_
      refine gfX12 C G X (k := 399) kd_399 1 (v := .ref (gB E + 400)) rfl rfl (by decide) k_1652 rfl dX12_logs_12 ?_
      refine lv_sipush (v := 188) C.1 C.2.1 dX12_logs_15 (by decide) ?_
      refine lv_iload C.1 C.2.1 dX12_logs_18 (lv_at hl 4 rfl) ?_
      refine lv_iadd C.1 C.2.1 dX12_logs_20 ?_
      refine lv_aload_n C.1 C.2.1 dX12_logs_21 rfl (lv_at hl 0 rfl) ?_
      refine gfX12 C G X (k := 399) kd_399 1 (v := .ref (gB E + 400)) rfl rfl (by decide) k_1652 rfl dX12_logs_22 ?_
      refine lv_sipush (v := 188) C.1 C.2.1 dX12_logs_25 (by decide) ?_
      refine lv_iload C.1 C.2.1 dX12_logs_28 (lv_at hl 4 rfl) ?_
      refine lv_iadd C.1 C.2.1 dX12_logs_30 ?_
      refine lv_iconst (v := 5) C.1 C.2.1 dX12_logs_31 (by decide) ?_
      refine lv_isub C.1 C.2.1 dX12_logs_32 ?_
      obtain ⟨r33, e33, h⟩ := bnd h
      refine ald C G X (k := 400) kd_400 (ag_s e33).1 dX12_logs_33 ?_
      rw [(ag_s e33).2]
      obtain ⟨σ34, e34, h⟩ := bnd h
      refine ast C G X (k := 400) kd_400 (au_s e34).1 dX12_logs_34 (fun H locs X => ?_)
      rw [(au_s e34).2] at X
      refine lv_iinc (v := (x4 + (-1))) (lv' := [(4, .int (x4 + (-1))), (0, .ref (gB E + 399)), (1, .int x1), (2, .int x2), (3, .int x3)]) C.1 C.2.1 dX12_logs_35 hl (k := 4) rfl rfl (by decide) rfl (fun ls hl => ?_)
      refine lv_goto (tgt := 5) C.1 C.2.1 dX12_logs_38 (by decide) ?_
      exact ih X (lv_sub hl [1, 2, 3, 4, 0] rfl) h

set_option maxRecDepth 20000 in
theorem w_X12_logs {r : Mem} {σ : Mem} {x1 : Int32} {x2 : Int32} {x3 : Int32} {ls : Array Slot} {H : Heap} {locs : List Loc} (C : Cx p s m args meth c cX12_logs none 5 RX12) (G : Gf E s) (X : Hx E σ s H locs) (hl : lv_has ls 5 [(0, .ref (gB E + 399)), (1, .int x1), (2, .int x2), (3, .int x3)]) (h : X12_logs x1 x2 x3 σ = some r) : W p l e (RM 2) s m args below meth c H locs 0 0 (QV E below args s r) (F0 m 0 ls []) := by
  rw [X12_logs] at h
  refine lv_sipush (v := 299) C.1 C.2.1 dX12_logs_0 (by decide) ?_
  refine lv_istore (lv' := [(4, .int (299 : Int32)), (0, .ref (gB E + 399)), (1, .int x1), (2, .int x2), (3, .int x3)]) C.1 C.2.1 dX12_logs_3 hl (by decide) rfl (fun ls hl => ?_)
  exact w_X12_logs_5 C G FU X (lv_sub hl [1, 2, 3, 4, 0] rfl) h

theorem c_X12_logs (l : Launch) (E : GE) {σ : Mem} {x1 : Int32} {x2 : Int32} {x3 : Int32} {r : Mem} (h : X12_logs x1 x2 x3 σ = some r) : CtV l E yX12_logs cX12_logs 5 2 [.ref (gB E + 399), .int x1, .int x2, .int x3] σ r := by
  refine Met.ofW (cc := cX12_logs) (maxL := 5) (ret := none) (by decide) rfl ?_
  intro p e s m args below meth c s₁ B hml hv
  obtain ⟨rfl, G, X⟩ := start hv
  have C := cxof B hml
  have hl := lv_entry [.ref (gB E + 399), .int x1, .int x2, .int x3] (n := 5) (Nat.le_of_ble_eq_true rfl)
  rw [lg_entry_eq]
  generalize (lg_sl [.ref (gB E + 399), .int x1, .int x2, .int x3] ++ List.replicate (5 - (lg_sl [.ref (gB E + 399), .int x1, .int x2, .int x3]).length) Slot.unset).toArray = ls at hl ⊢
  exact w_X12_logs C G X hl h

set_option maxRecDepth 20000 in
theorem w_X12_steps_41 {r : Mem} (C : Cx p s m args meth c cX12_steps none 7 RX12) (G : Gf E s) : ∀ (f : Nat) {x1 : Int32} {x2 : Int32} {x3 : Int32} {x4 : Int32} {x5 : Int32} {x6 : Int32} {σ : Mem} {ls : Array Slot} {H : Heap} {locs : List Loc}, Hx E σ s H locs → lv_has ls 7 [(0, .ref (gB E + 399)), (1, .int x1), (2, .int x2), (3, .int x3), (4, .int x4), (5, .int x5), (6, .int x6)] → X12_steps_41 f x1 x2 x3 x4 x5 x6 σ = some r → W p l e (RM 4) s m args below meth c H locs 0 0 (QV E below args s r) (F0 m 41 ls []) := by
  intro f
  induction f with
  | zero =>
    intro x1 x2 x3 x4 x5 x6 σ ls H locs X hl h
    rw [X12_steps_41] at h
    cases h
  | succ f ih =>
    intro x1 x2 x3 x4 x5 x6 σ ls H locs X hl h
    rw [X12_steps_41] at h
    refine lv_iload C.1 C.2.1 dX12_steps_41 (lv_at hl 6 rfl) ?_
    refine lv_if_lt (tgt := 85) C.1 C.2.1 dX12_steps_43 (by decide) (fun c43 => ?_) (fun c43 => ?_)
    · replace h := ipos c43 h
      refine lv_aload_n C.1 C.2.1 dX12_steps_85 rfl (lv_at hl 0 rfl) ?_
      refine gfX12 C G X (k := 399) kd_399 1 (v := .ref (gB E + 400)) rfl rfl (by decide) k_1652 rfl dX12_steps_86 ?_
      refine lv_sipush (v := 128) C.1 C.2.1 dX12_steps_89 (by decide) ?_
      refine lv_iconst (v := 4) C.1 C.2.1 dX12_steps_92 (by decide) ?_
      refine lv_iload_n C.1 C.2.1 dX12_steps_93 rfl (lv_at hl 1 rfl) ?_
      refine lv_imul C.1 C.2.1 dX12_steps_94 ?_
      refine lv_iadd C.1 C.2.1 dX12_steps_95 ?_
      refine lv_iconst (v := 0) C.1 C.2.1 dX12_steps_96 (by decide) ?_
      refine lv_iadd C.1 C.2.1 dX12_steps_97 ?_
      refine lv_iload C.1 C.2.1 dX12_steps_98 (lv_at hl 5 rfl) ?_
      obtain ⟨σ100, e100, h⟩ := bnd h
      refine ast C G X (k := 400) kd_400 (au_s e100).1 dX12_steps_100 (fun H locs X => ?_)
      rw [(au_s e100).2] at X
      refine lv_iload C.1 C.2.1 dX12_steps_101 (lv_at hl 5 rfl) ?_
      refine lv_iload_n C.1 C.2.1 dX12_steps_103 rfl (lv_at hl 2 rfl) ?_
      refine lv_icmp_ne (tgt := 122) C.1 C.2.1 dX12_steps_104 (by decide) (fun c104 => ?_) (fun c104 => ?_)
      · replace h := ineg c104 h
        rw [← Option.some.inj h]
        exact rtV C X dX12_steps_122
      · replace h := ipos c104 h
        refine lv_aload_n C.1 C.2.1 dX12_steps_107 rfl (lv_at hl 0 rfl) ?_
        refine gfX12 C G X (k := 399) kd_399 1 (v := .ref (gB E + 400)) rfl rfl (by decide) k_1652 rfl dX12_steps_108 ?_
        refine lv_sipush (v := 128) C.1 C.2.1 dX12_steps_111 (by decide) ?_
        refine lv_iconst (v := 4) C.1 C.2.1 dX12_steps_114 (by decide) ?_
        refine lv_iload_n C.1 C.2.1 dX12_steps_115 rfl (lv_at hl 1 rfl) ?_
        refine lv_imul C.1 C.2.1 dX12_steps_116 ?_
        refine lv_iadd C.1 C.2.1 dX12_steps_117 ?_
        refine lv_iconst (v := 2) C.1 C.2.1 dX12_steps_118 (by decide) ?_
        refine lv_iadd C.1 C.2.1 dX12_steps_119 ?_
        refine lv_iconst (v := -1) C.1 C.2.1 dX12_steps_120 (by decide) ?_
        obtain ⟨σ121, e121, h⟩ := bnd h
        refine ast C G X (k := 400) kd_400 (au_s e121).1 dX12_steps_121 (fun H locs X => ?_)
        rw [(au_s e121).2] at X
        rw [← Option.some.inj h]
        exact rtV C X dX12_steps_122
    · replace h := ineg c43 h
      refine lv_iload C.1 C.2.1 dX12_steps_46 (lv_at hl 4 rfl) ?_
      refine lv_if_le (tgt := 79) C.1 C.2.1 dX12_steps_48 (by decide) (fun c48 => ?_) (fun c48 => ?_)
      · replace h := ipos c48 h
        refine lv_iinc (v := (x6 + (-1))) (lv' := [(6, .int (x6 + (-1))), (0, .ref (gB E + 399)), (1, .int x1), (2, .int x2), (3, .int x3), (4, .int x4), (5, .int x5)]) C.1 C.2.1 dX12_steps_79 hl (k := 6) rfl rfl (by decide) rfl (fun ls hl => ?_)
        refine lv_goto (tgt := 41) C.1 C.2.1 dX12_steps_82 (by decide) ?_
        exact ih X (lv_sub hl [1, 2, 3, 4, 5, 6, 0] rfl) h
      · replace h := ineg c48 h
        refine lv_aload_n C.1 C.2.1 dX12_steps_51 rfl (lv_at hl 0 rfl) ?_
        refine lv_iload_n C.1 C.2.1 dX12_steps_52 rfl (lv_at hl 3 rfl) ?_
        refine lv_iload C.1 C.2.1 dX12_steps_53 (lv_at hl 6 rfl) ?_
        obtain ⟨r55, e55, h⟩ := bnd h
        refine afI X (runV C G X q_X12_isWay k_1951 kp_68 k_1949 (rcX12 G X kd_399) (c_X12_isWay l E e55) rfl hl.1 rfl (Nat.le_of_ble_eq_true rfl) ⟨Nat.le_of_ble_eq_true rfl, Nat.le_of_ble_eq_true rfl⟩ ⟨Nat.le_of_ble_eq_true rfl, Nat.le_of_ble_eq_true rfl⟩ dX12_steps_55) (fun H locs X => ?_)
        refine lv_if_eq (tgt := 79) C.1 C.2.1 dX12_steps_58 (by decide) (fun c58 => ?_) (fun c58 => ?_)
        · replace h := ipos c58 h
          refine lv_iinc (v := (x6 + (-1))) (lv' := [(6, .int (x6 + (-1))), (0, .ref (gB E + 399)), (1, .int x1), (2, .int x2), (3, .int x3), (4, .int x4), (5, .int x5)]) C.1 C.2.1 dX12_steps_79 hl (k := 6) rfl rfl (by decide) rfl (fun ls hl => ?_)
          refine lv_goto (tgt := 41) C.1 C.2.1 dX12_steps_82 (by decide) ?_
          exact ih X (lv_sub hl [1, 2, 3, 4, 5, 6, 0] rfl) h
        · replace h := ineg c58 h
          refine lv_aload_n C.1 C.2.1 dX12_steps_61 rfl (lv_at hl 0 rfl) ?_
          refine lv_iload C.1 C.2.1 dX12_steps_62 (lv_at hl 6 rfl) ?_
          refine lv_iload_n C.1 C.2.1 dX12_steps_64 rfl (lv_at hl 2 rfl) ?_
          obtain ⟨r65, e65, h⟩ := bnd h
          refine afI X (runV C G X q_X12_farOf k_1940 kp_66 k_1938 (rcX12 G X kd_399) (c_X12_farOf l E e65) rfl hl.1 rfl (Nat.le_of_ble_eq_true rfl) ⟨Nat.le_of_ble_eq_true rfl, Nat.le_of_ble_eq_true rfl⟩ ⟨Nat.le_of_ble_eq_true rfl, Nat.le_of_ble_eq_true rfl⟩ dX12_steps_65) (fun H locs X => ?_)
          refine lv_iload C.1 C.2.1 dX12_steps_68 (lv_at hl 4 rfl) ?_
          refine lv_iconst (v := 1) C.1 C.2.1 dX12_steps_70 (by decide) ?_
          refine lv_isub C.1 C.2.1 dX12_steps_71 ?_
          refine lv_icmp_ne (tgt := 79) C.1 C.2.1 dX12_steps_72 (by decide) (fun c72 => ?_) (fun c72 => ?_)
          · replace h := ineg c72 h
            refine lv_iinc (v := (x6 + (-1))) (lv' := [(6, .int (x6 + (-1))), (0, .ref (gB E + 399)), (1, .int x1), (2, .int x2), (3, .int x3), (4, .int x4), (5, .int x5)]) C.1 C.2.1 dX12_steps_79 hl (k := 6) rfl rfl (by decide) rfl (fun ls hl => ?_)
            refine lv_goto (tgt := 41) C.1 C.2.1 dX12_steps_82 (by decide) ?_
            exact ih X (lv_sub hl [1, 2, 3, 4, 5, 6, 0] rfl) h
          · replace h := ipos c72 h
            refine lv_iload C.1 C.2.1 dX12_steps_75 (lv_at hl 6 rfl) ?_
            refine lv_istore (lv' := [(5, .int x6), (0, .ref (gB E + 399)), (1, .int x1), (2, .int x2), (3, .int x3), (4, .int x4), (6, .int x6)]) C.1 C.2.1 dX12_steps_77 hl (by decide) rfl (fun ls hl => ?_)
            refine lv_iinc (v := (x6 + (-1))) (lv' := [(6, .int (x6 + (-1))), (5, .int x6), (0, .ref (gB E + 399)), (1, .int x1), (2, .int x2), (3, .int x3), (4, .int x4)]) C.1 C.2.1 dX12_steps_79 hl (k := 6) rfl rfl (by decide) rfl (fun ls hl => ?_)
            refine lv_goto (tgt := 41) C.1 C.2.1 dX12_steps_82 (by decide) ?_
            exact ih X (lv_sub hl [2, 3, 4, 5, 6, 1, 0] rfl) h

set_option maxRecDepth 20000 in
theorem w_X12_steps {r : Mem} {σ : Mem} {x1 : Int32} {ls : Array Slot} {H : Heap} {locs : List Loc} (C : Cx p s m args meth c cX12_steps none 7 RX12) (G : Gf E s) (X : Hx E σ s H locs) (hl : lv_has ls 7 [(0, .ref (gB E + 399)), (1, .int x1)]) (h : X12_steps x1 σ = some r) : W p l e (RM 4) s m args below meth c H locs 0 0 (QV E below args s r) (F0 m 0 ls []) := by
  rw [X12_steps] at h
  refine lv_aload_n C.1 C.2.1 dX12_steps_0 rfl (lv_at hl 0 rfl) ?_
  refine lv_iload_n C.1 C.2.1 dX12_steps_1 rfl (lv_at hl 1 rfl) ?_
  refine lv_iconst (v := 2) C.1 C.2.1 dX12_steps_2 (by decide) ?_
  obtain ⟨r3, e3, h⟩ := bnd h
  refine afI X (runV C G X q_X12_ofWalker k_1915 kp_60 k_1913 (rcX12 G X kd_399) (c_X12_ofWalker l E e3) rfl hl.1 rfl (Nat.le_of_ble_eq_true rfl) ⟨Nat.le_of_ble_eq_true rfl, Nat.le_of_ble_eq_true rfl⟩ ⟨Nat.le_of_ble_eq_true rfl, Nat.le_of_ble_eq_true rfl⟩ dX12_steps_3) (fun H locs X => ?_)
  refine lv_istore_n (lv' := [(2, .int r3), (0, .ref (gB E + 399)), (1, .int x1)]) C.1 C.2.1 dX12_steps_6 rfl hl (by decide) rfl (fun ls hl => ?_)
  refine lv_aload_n C.1 C.2.1 dX12_steps_7 rfl (lv_at hl 1 rfl) ?_
  refine lv_iload_n C.1 C.2.1 dX12_steps_8 rfl (lv_at hl 2 rfl) ?_
  refine lv_iconst (v := 0) C.1 C.2.1 dX12_steps_9 (by decide) ?_
  obtain ⟨r10, e10, h⟩ := bnd h
  refine afI X (runV C G X q_X12_ofWalker k_1915 kp_60 k_1913 (rcX12 G X kd_399) (c_X12_ofWalker l E e10) rfl hl.1 rfl (Nat.le_of_ble_eq_true rfl) ⟨Nat.le_of_ble_eq_true rfl, Nat.le_of_ble_eq_true rfl⟩ ⟨Nat.le_of_ble_eq_true rfl, Nat.le_of_ble_eq_true rfl⟩ dX12_steps_10) (fun H locs X => ?_)
  refine lv_istore_n (lv' := [(3, .int r10), (2, .int r3), (0, .ref (gB E + 399)), (1, .int x1)]) C.1 C.2.1 dX12_steps_13 rfl hl (by decide) rfl (fun ls hl => ?_)
  refine lv_iload_n C.1 C.2.1 dX12_steps_14 rfl (lv_at hl 1 rfl) ?_
  refine lv_iconst (v := -1) C.1 C.2.1 dX12_steps_15 (by decide) ?_
  refine lv_icmp_ne (tgt := 20) C.1 C.2.1 dX12_steps_16 (by decide) (fun c16 => ?_) (fun c16 => ?_)
  · replace h := ineg c16 h
    refine lv_aload_n C.1 C.2.1 dX12_steps_20 rfl (lv_at hl 2 rfl) ?_
    refine lv_iload_n C.1 C.2.1 dX12_steps_21 rfl (lv_at hl 0 rfl) ?_
    refine lv_iload_n C.1 C.2.1 dX12_steps_22 rfl (lv_at hl 1 rfl) ?_
    obtain ⟨r23, e23, h⟩ := bnd h
    refine afI X (runV C G X q_X12_farOf k_1940 kp_66 k_1938 (rcX12 G X kd_399) (c_X12_farOf l E e23) rfl hl.1 rfl (Nat.le_of_ble_eq_true rfl) ⟨Nat.le_of_ble_eq_true rfl, Nat.le_of_ble_eq_true rfl⟩ ⟨Nat.le_of_ble_eq_true rfl, Nat.le_of_ble_eq_true rfl⟩ dX12_steps_23) (fun H locs X => ?_)
    refine lv_istore (lv' := [(4, .int r23), (3, .int r10), (2, .int r3), (0, .ref (gB E + 399)), (1, .int x1)]) C.1 C.2.1 dX12_steps_26 hl (by decide) rfl (fun ls hl => ?_)
    refine lv_iload_n C.1 C.2.1 dX12_steps_28 rfl (lv_at hl 1 rfl) ?_
    refine lv_istore (lv' := [(5, .int r10), (4, .int r23), (3, .int r10), (2, .int r3), (0, .ref (gB E + 399)), (1, .int x1)]) C.1 C.2.1 dX12_steps_29 hl (by decide) rfl (fun ls hl => ?_)
    refine lv_aload_n C.1 C.2.1 dX12_steps_31 rfl (lv_at hl 4 rfl) ?_
    refine gfX12 C G X (k := 399) kd_399 1 (v := .ref (gB E + 400)) rfl rfl (by decide) k_1652 rfl dX12_steps_32 ?_
    refine lv_iconst (v := 3) C.1 C.2.1 dX12_steps_35 (by decide) ?_
    obtain ⟨r36, e36, h⟩ := bnd h
    refine ald C G X (k := 400) kd_400 (ag_s e36).1 dX12_steps_36 ?_
    rw [(ag_s e36).2]
    refine lv_iconst (v := 1) C.1 C.2.1 dX12_steps_37 (by decide) ?_
    refine lv_isub C.1 C.2.1 dX12_steps_38 ?_
    refine lv_istore (lv' := [(6, .int (r36 - (1 : Int32))), (5, .int r10), (4, .int r23), (3, .int r10), (2, .int r3), (0, .ref (gB E + 399)), (1, .int x1)]) C.1 C.2.1 dX12_steps_39 hl (by decide) rfl (fun ls hl => ?_)
    exact w_X12_steps_41 C G FU X (lv_sub hl [5, 6, 4, 3, 2, 1, 0] rfl) h
  · replace h := ipos c16 h
    rw [← Option.some.inj h]
    exact rtV C X dX12_steps_19

theorem c_X12_steps (l : Launch) (E : GE) {σ : Mem} {x1 : Int32} {r : Mem} (h : X12_steps x1 σ = some r) : CtV l E yX12_steps cX12_steps 7 4 [.ref (gB E + 399), .int x1] σ r := by
  refine Met.ofW (cc := cX12_steps) (maxL := 7) (ret := none) (by decide) rfl ?_
  intro p e s m args below meth c s₁ B hml hv
  obtain ⟨rfl, G, X⟩ := start hv
  have C := cxof B hml
  have hl := lv_entry [.ref (gB E + 399), .int x1] (n := 7) (Nat.le_of_ble_eq_true rfl)
  rw [lg_entry_eq]
  generalize (lg_sl [.ref (gB E + 399), .int x1] ++ List.replicate (7 - (lg_sl [.ref (gB E + 399), .int x1]).length) Slot.unset).toArray = ls at hl ⊢
  exact w_X12_steps C G X hl h

set_option maxRecDepth 20000 in
theorem w_X12_kindles_104 {r : Mem} {σ : Mem} {x1 : Int32} {x2 : Int32} {x3 : Int32} {ls : Array Slot} {H : Heap} {locs : List Loc} (C : Cx p s m args meth c cX12_kindles none 5 RX12) (G : Gf E s) (X : Hx E σ s H locs) (hl : lv_has ls 5 [(0, .ref (gB E + 399)), (1, .int x1), (2, .int x2), (3, .int x3)]) (h : X12_kindles_104 x1 x2 x3 σ = some r) : W p l e (RM 3) s m args below meth c H locs 0 0 (QV E below args s r) (F0 m 104 ls []) := by
  rw [X12_kindles_104] at h
  refine lv_aload_n C.1 C.2.1 dX12_kindles_104 rfl (lv_at hl 0 rfl) ?_
  refine lv_iload_n C.1 C.2.1 dX12_kindles_105 rfl (lv_at hl 3 rfl) ?_
  refine lv_iload_n C.1 C.2.1 dX12_kindles_106 rfl (lv_at hl 2 rfl) ?_
  refine lv_iload_n C.1 C.2.1 dX12_kindles_107 rfl (lv_at hl 1 rfl) ?_
  obtain ⟨σ108, e108, h⟩ := bnd h
  refine afV X (runV C G X q_X12_logs k_1962 kp_70 k_1960 (rcX12 G X kd_399) (c_X12_logs l E e108) rfl hl.1 rfl (Nat.le_of_ble_eq_true rfl) ⟨Nat.le_of_ble_eq_true rfl, Nat.le_of_ble_eq_true rfl⟩ ⟨Nat.le_of_ble_eq_true rfl, Nat.le_of_ble_eq_true rfl⟩ dX12_kindles_108) (fun H locs X => ?_)
  rw [← Option.some.inj h]
  exact rtV C X dX12_kindles_111

set_option maxRecDepth 20000 in
theorem w_X12_kindles {r : Mem} {σ : Mem} {x1 : Int32} {x2 : Int32} {x3 : Int32} {ls : Array Slot} {H : Heap} {locs : List Loc} (C : Cx p s m args meth c cX12_kindles none 5 RX12) (G : Gf E s) (X : Hx E σ s H locs) (hl : lv_has ls 5 [(0, .ref (gB E + 399)), (1, .int x1), (2, .int x2), (3, .int x3)]) (h : X12_kindles x1 x2 x3 σ = some r) : W p l e (RM 3) s m args below meth c H locs 0 0 (QV E below args s r) (F0 m 0 ls []) := by
  rw [X12_kindles] at h
  refine lv_aload_n C.1 C.2.1 dX12_kindles_0 rfl (lv_at hl 0 rfl) ?_
  refine lv_iload_n C.1 C.2.1 dX12_kindles_1 rfl (lv_at hl 2 rfl) ?_
  refine lv_iconst (v := 1) C.1 C.2.1 dX12_kindles_2 (by decide) ?_
  refine lv_iconst (v := 1) C.1 C.2.1 dX12_kindles_3 (by decide) ?_
  obtain ⟨σ4, e4, h⟩ := bnd h
  refine afV X (runV C G X q_X12_lays k_1837 kp_45 k_1835 (rcX12 G X kd_399) (c_X12_lays l E e4) rfl hl.1 rfl (Nat.le_of_ble_eq_true rfl) ⟨Nat.le_of_ble_eq_true rfl, Nat.le_of_ble_eq_true rfl⟩ ⟨Nat.le_of_ble_eq_true rfl, Nat.le_of_ble_eq_true rfl⟩ dX12_kindles_4) (fun H locs X => ?_)
  refine lv_aload_n C.1 C.2.1 dX12_kindles_7 rfl (lv_at hl 0 rfl) ?_
  refine lv_iload_n C.1 C.2.1 dX12_kindles_8 rfl (lv_at hl 2 rfl) ?_
  refine lv_iconst (v := 3) C.1 C.2.1 dX12_kindles_9 (by decide) ?_
  refine lv_iconst (v := 0) C.1 C.2.1 dX12_kindles_10 (by decide) ?_
  obtain ⟨σ11, e11, h⟩ := bnd h
  refine afV X (runV C G X q_X12_lays k_1837 kp_45 k_1835 (rcX12 G X kd_399) (c_X12_lays l E e11) rfl hl.1 rfl (Nat.le_of_ble_eq_true rfl) ⟨Nat.le_of_ble_eq_true rfl, Nat.le_of_ble_eq_true rfl⟩ ⟨Nat.le_of_ble_eq_true rfl, Nat.le_of_ble_eq_true rfl⟩ dX12_kindles_11) (fun H locs X => ?_)
  refine lv_aload_n C.1 C.2.1 dX12_kindles_14 rfl (lv_at hl 0 rfl) ?_
  refine gfX12 C G X (k := 399) kd_399 1 (v := .ref (gB E + 400)) rfl rfl (by decide) k_1652 rfl dX12_kindles_15 ?_
  refine lv_sipush (v := 128) C.1 C.2.1 dX12_kindles_18 (by decide) ?_
  refine lv_iconst (v := 4) C.1 C.2.1 dX12_kindles_21 (by decide) ?_
  refine lv_iload_n C.1 C.2.1 dX12_kindles_22 rfl (lv_at hl 1 rfl) ?_
  refine lv_imul C.1 C.2.1 dX12_kindles_23 ?_
  refine lv_iadd C.1 C.2.1 dX12_kindles_24 ?_
  refine lv_iconst (v := 1) C.1 C.2.1 dX12_kindles_25 (by decide) ?_
  refine lv_iadd C.1 C.2.1 dX12_kindles_26 ?_
  refine lv_dup2_11 C.1 C.2.1 dX12_kindles_27 rfl rfl ?_
  obtain ⟨r28, e28, h⟩ := bnd h
  refine ald C G X (k := 400) kd_400 (ag_s e28).1 dX12_kindles_28 ?_
  rw [(ag_s e28).2]
  refine lv_iconst (v := 1) C.1 C.2.1 dX12_kindles_29 (by decide) ?_
  refine lv_isub C.1 C.2.1 dX12_kindles_30 ?_
  obtain ⟨σ31, e31, h⟩ := bnd h
  refine ast C G X (k := 400) kd_400 (au_s e31).1 dX12_kindles_31 (fun H locs X => ?_)
  rw [(au_s e31).2] at X
  refine lv_aload_n C.1 C.2.1 dX12_kindles_32 rfl (lv_at hl 0 rfl) ?_
  refine gfX12 C G X (k := 399) kd_399 1 (v := .ref (gB E + 400)) rfl rfl (by decide) k_1652 rfl dX12_kindles_33 ?_
  refine lv_sipush (v := 128) C.1 C.2.1 dX12_kindles_36 (by decide) ?_
  refine lv_iconst (v := 4) C.1 C.2.1 dX12_kindles_39 (by decide) ?_
  refine lv_iload_n C.1 C.2.1 dX12_kindles_40 rfl (lv_at hl 1 rfl) ?_
  refine lv_imul C.1 C.2.1 dX12_kindles_41 ?_
  refine lv_iadd C.1 C.2.1 dX12_kindles_42 ?_
  refine lv_iconst (v := 3) C.1 C.2.1 dX12_kindles_43 (by decide) ?_
  refine lv_iadd C.1 C.2.1 dX12_kindles_44 ?_
  refine lv_sipush (v := 999) C.1 C.2.1 dX12_kindles_45 (by decide) ?_
  refine lv_aload_n C.1 C.2.1 dX12_kindles_48 rfl (lv_at hl 0 rfl) ?_
  refine lv_iload_n C.1 C.2.1 dX12_kindles_49 rfl (lv_at hl 1 rfl) ?_
  refine lv_iconst (v := 3) C.1 C.2.1 dX12_kindles_50 (by decide) ?_
  obtain ⟨r51, e51, h⟩ := bnd h
  refine afI X (runV C G X q_X12_ofWalker k_1915 kp_60 k_1913 (rcX12 G X kd_399) (c_X12_ofWalker l E e51) rfl hl.1 rfl (Nat.le_of_ble_eq_true rfl) ⟨Nat.le_of_ble_eq_true rfl, Nat.le_of_ble_eq_true rfl⟩ ⟨Nat.le_of_ble_eq_true rfl, Nat.le_of_ble_eq_true rfl⟩ dX12_kindles_51) (fun H locs X => ?_)
  refine lv_iconst (v := 1) C.1 C.2.1 dX12_kindles_54 (by decide) ?_
  refine lv_iadd C.1 C.2.1 dX12_kindles_55 ?_
  obtain ⟨r56, e56, h⟩ := bnd h
  refine afI X (runS C G X q_X12_lesser k_1958 k_1957 (c_X12_lesser l E e56) rfl hl.1 rfl (Nat.le_of_ble_eq_true rfl) ⟨Nat.le_of_ble_eq_true rfl, Nat.le_of_ble_eq_true rfl⟩ ⟨Nat.le_of_ble_eq_true rfl, Nat.le_of_ble_eq_true rfl⟩ dX12_kindles_56) (fun H locs X => ?_)
  obtain ⟨σ59, e59, h⟩ := bnd h
  refine ast C G X (k := 400) kd_400 (au_s e59).1 dX12_kindles_59 (fun H locs X => ?_)
  rw [(au_s e59).2] at X
  refine lv_aload_n C.1 C.2.1 dX12_kindles_60 rfl (lv_at hl 0 rfl) ?_
  refine lv_iload_n C.1 C.2.1 dX12_kindles_61 rfl (lv_at hl 2 rfl) ?_
  refine lv_iconst (v := 2) C.1 C.2.1 dX12_kindles_62 (by decide) ?_
  obtain ⟨r63, e63, h⟩ := bnd h
  refine afI X (runV C G X q_X12_of k_1855 kp_49 k_1853 (rcX12 G X kd_399) (c_X12_of l E e63) rfl hl.1 rfl (Nat.le_of_ble_eq_true rfl) ⟨Nat.le_of_ble_eq_true rfl, Nat.le_of_ble_eq_true rfl⟩ ⟨Nat.le_of_ble_eq_true rfl, Nat.le_of_ble_eq_true rfl⟩ dX12_kindles_63) (fun H locs X => ?_)
  refine lv_istore (lv' := [(4, .int r63), (0, .ref (gB E + 399)), (1, .int x1), (2, .int x2), (3, .int x3)]) C.1 C.2.1 dX12_kindles_66 hl (by decide) rfl (fun ls hl => ?_)
  refine lv_iload C.1 C.2.1 dX12_kindles_68 (lv_at hl 0 rfl) ?_
  refine lv_iconst (v := -1) C.1 C.2.1 dX12_kindles_70 (by decide) ?_
  refine lv_icmp_eq (tgt := 104) C.1 C.2.1 dX12_kindles_71 (by decide) (fun c71 => ?_) (fun c71 => ?_)
  · replace h := ipos c71 h
    exact w_X12_kindles_104 C G X (lv_sub hl [1, 2, 3, 4] rfl) h
  · replace h := ineg c71 h
    refine lv_aload_n C.1 C.2.1 dX12_kindles_74 rfl (lv_at hl 1 rfl) ?_
    refine gfX12 C G X (k := 399) kd_399 1 (v := .ref (gB E + 400)) rfl rfl (by decide) k_1652 rfl dX12_kindles_75 ?_
    refine lv_sipush (v := 152) C.1 C.2.1 dX12_kindles_78 (by decide) ?_
    refine lv_bipush (v := 6) C.1 C.2.1 dX12_kindles_81 (by decide) ?_
    refine lv_iload C.1 C.2.1 dX12_kindles_83 (lv_at hl 0 rfl) ?_
    refine lv_imul C.1 C.2.1 dX12_kindles_85 ?_
    refine lv_iadd C.1 C.2.1 dX12_kindles_86 ?_
    refine lv_iload_n C.1 C.2.1 dX12_kindles_87 rfl (lv_at hl 2 rfl) ?_
    refine lv_iadd C.1 C.2.1 dX12_kindles_88 ?_
    refine lv_bipush (v := 9) C.1 C.2.1 dX12_kindles_89 (by decide) ?_
    refine lv_aload_n C.1 C.2.1 dX12_kindles_91 rfl (lv_at hl 1 rfl) ?_
    refine lv_iload C.1 C.2.1 dX12_kindles_92 (lv_at hl 0 rfl) ?_
    refine lv_iload_n C.1 C.2.1 dX12_kindles_94 rfl (lv_at hl 2 rfl) ?_
    obtain ⟨r95, e95, h⟩ := bnd h
    refine afI X (runV C G X q_X12_liking k_1907 kp_58 k_1905 (rcX12 G X kd_399) (c_X12_liking l E e95) rfl hl.1 rfl (Nat.le_of_ble_eq_true rfl) ⟨Nat.le_of_ble_eq_true rfl, Nat.le_of_ble_eq_true rfl⟩ ⟨Nat.le_of_ble_eq_true rfl, Nat.le_of_ble_eq_true rfl⟩ dX12_kindles_95) (fun H locs X => ?_)
    refine lv_iconst (v := 1) C.1 C.2.1 dX12_kindles_98 (by decide) ?_
    refine lv_iadd C.1 C.2.1 dX12_kindles_99 ?_
    obtain ⟨r100, e100, h⟩ := bnd h
    refine afI X (runS C G X q_X12_lesser k_1958 k_1957 (c_X12_lesser l E e100) rfl hl.1 rfl (Nat.le_of_ble_eq_true rfl) ⟨Nat.le_of_ble_eq_true rfl, Nat.le_of_ble_eq_true rfl⟩ ⟨Nat.le_of_ble_eq_true rfl, Nat.le_of_ble_eq_true rfl⟩ dX12_kindles_100) (fun H locs X => ?_)
    obtain ⟨σ103, e103, h⟩ := bnd h
    refine ast C G X (k := 400) kd_400 (au_s e103).1 dX12_kindles_103 (fun H locs X => ?_)
    rw [(au_s e103).2] at X
    exact w_X12_kindles_104 C G X (lv_sub hl [1, 2, 3, 4] rfl) h

theorem c_X12_kindles (l : Launch) (E : GE) {σ : Mem} {x1 : Int32} {x2 : Int32} {x3 : Int32} {r : Mem} (h : X12_kindles x1 x2 x3 σ = some r) : CtV l E yX12_kindles cX12_kindles 5 3 [.ref (gB E + 399), .int x1, .int x2, .int x3] σ r := by
  refine Met.ofW (cc := cX12_kindles) (maxL := 5) (ret := none) (by decide) rfl ?_
  intro p e s m args below meth c s₁ B hml hv
  obtain ⟨rfl, G, X⟩ := start hv
  have C := cxof B hml
  have hl := lv_entry [.ref (gB E + 399), .int x1, .int x2, .int x3] (n := 5) (Nat.le_of_ble_eq_true rfl)
  rw [lg_entry_eq]
  generalize (lg_sl [.ref (gB E + 399), .int x1, .int x2, .int x3] ++ List.replicate (5 - (lg_sl [.ref (gB E + 399), .int x1, .int x2, .int x3]).length) Slot.unset).toArray = ls at hl ⊢
  exact w_X12_kindles C G X hl h

set_option maxRecDepth 20000 in
theorem w_X12_burns_51 {r : Mem} {σ : Mem} {x1 : Int32} {ls : Array Slot} {H : Heap} {locs : List Loc} (C : Cx p s m args meth c cX12_burns none 2 RX12) (G : Gf E s) (X : Hx E σ s H locs) (hl : lv_has ls 2 [(0, .ref (gB E + 399)), (1, .int x1)]) (h : X12_burns_51 x1 σ = some r) : W p l e (RM 3) s m args below meth c H locs 0 0 (QV E below args s r) (F0 m 51 ls []) := by
  rw [X12_burns_51] at h
  refine lv_aload_n C.1 C.2.1 dX12_burns_51 rfl (lv_at hl 0 rfl) ?_
  refine lv_iload_n C.1 C.2.1 dX12_burns_52 rfl (lv_at hl 1 rfl) ?_
  refine lv_iconst (v := 1) C.1 C.2.1 dX12_burns_53 (by decide) ?_
  obtain ⟨r54, e54, h⟩ := bnd h
  refine afI X (runV C G X q_X12_of k_1855 kp_49 k_1853 (rcX12 G X kd_399) (c_X12_of l E e54) rfl hl.1 rfl (Nat.le_of_ble_eq_true rfl) ⟨Nat.le_of_ble_eq_true rfl, Nat.le_of_ble_eq_true rfl⟩ ⟨Nat.le_of_ble_eq_true rfl, Nat.le_of_ble_eq_true rfl⟩ dX12_burns_54) (fun H locs X => ?_)
  refine lv_if_ne (tgt := 79) C.1 C.2.1 dX12_burns_57 (by decide) (fun c57 => ?_) (fun c57 => ?_)
  · replace h := ineg c57 h
    rw [← Option.some.inj h]
    exact rtV C X dX12_burns_79
  · replace h := ipos c57 h
    refine lv_aload_n C.1 C.2.1 dX12_burns_60 rfl (lv_at hl 0 rfl) ?_
    refine lv_iload_n C.1 C.2.1 dX12_burns_61 rfl (lv_at hl 1 rfl) ?_
    refine lv_iconst (v := 3) C.1 C.2.1 dX12_burns_62 (by decide) ?_
    refine lv_bipush (v := 99) C.1 C.2.1 dX12_burns_63 (by decide) ?_
    refine lv_aload_n C.1 C.2.1 dX12_burns_65 rfl (lv_at hl 0 rfl) ?_
    refine lv_iload_n C.1 C.2.1 dX12_burns_66 rfl (lv_at hl 1 rfl) ?_
    refine lv_iconst (v := 3) C.1 C.2.1 dX12_burns_67 (by decide) ?_
    obtain ⟨r68, e68, h⟩ := bnd h
    refine afI X (runV C G X q_X12_of k_1855 kp_49 k_1853 (rcX12 G X kd_399) (c_X12_of l E e68) rfl hl.1 rfl (Nat.le_of_ble_eq_true rfl) ⟨Nat.le_of_ble_eq_true rfl, Nat.le_of_ble_eq_true rfl⟩ ⟨Nat.le_of_ble_eq_true rfl, Nat.le_of_ble_eq_true rfl⟩ dX12_burns_68) (fun H locs X => ?_)
    refine lv_iconst (v := 1) C.1 C.2.1 dX12_burns_71 (by decide) ?_
    refine lv_iadd C.1 C.2.1 dX12_burns_72 ?_
    obtain ⟨r73, e73, h⟩ := bnd h
    refine afI X (runS C G X q_X12_lesser k_1958 k_1957 (c_X12_lesser l E e73) rfl hl.1 rfl (Nat.le_of_ble_eq_true rfl) ⟨Nat.le_of_ble_eq_true rfl, Nat.le_of_ble_eq_true rfl⟩ ⟨Nat.le_of_ble_eq_true rfl, Nat.le_of_ble_eq_true rfl⟩ dX12_burns_73) (fun H locs X => ?_)
    obtain ⟨σ76, e76, h⟩ := bnd h
    refine afV X (runV C G X q_X12_lays k_1837 kp_45 k_1835 (rcX12 G X kd_399) (c_X12_lays l E e76) rfl hl.1 rfl (Nat.le_of_ble_eq_true rfl) ⟨Nat.le_of_ble_eq_true rfl, Nat.le_of_ble_eq_true rfl⟩ ⟨Nat.le_of_ble_eq_true rfl, Nat.le_of_ble_eq_true rfl⟩ dX12_burns_76) (fun H locs X => ?_)
    rw [← Option.some.inj h]
    exact rtV C X dX12_burns_79

set_option maxRecDepth 20000 in
theorem w_X12_burns {r : Mem} {σ : Mem} {x1 : Int32} {ls : Array Slot} {H : Heap} {locs : List Loc} (C : Cx p s m args meth c cX12_burns none 2 RX12) (G : Gf E s) (X : Hx E σ s H locs) (hl : lv_has ls 2 [(0, .ref (gB E + 399)), (1, .int x1)]) (h : X12_burns x1 σ = some r) : W p l e (RM 3) s m args below meth c H locs 0 0 (QV E below args s r) (F0 m 0 ls []) := by
  rw [X12_burns] at h
  refine lv_aload_n C.1 C.2.1 dX12_burns_0 rfl (lv_at hl 0 rfl) ?_
  refine lv_iload_n C.1 C.2.1 dX12_burns_1 rfl (lv_at hl 1 rfl) ?_
  refine lv_iconst (v := 1) C.1 C.2.1 dX12_burns_2 (by decide) ?_
  obtain ⟨r3, e3, h⟩ := bnd h
  refine afI X (runV C G X q_X12_of k_1855 kp_49 k_1853 (rcX12 G X kd_399) (c_X12_of l E e3) rfl hl.1 rfl (Nat.le_of_ble_eq_true rfl) ⟨Nat.le_of_ble_eq_true rfl, Nat.le_of_ble_eq_true rfl⟩ ⟨Nat.le_of_ble_eq_true rfl, Nat.le_of_ble_eq_true rfl⟩ dX12_burns_3) (fun H locs X => ?_)
  refine lv_iconst (v := 1) C.1 C.2.1 dX12_burns_6 (by decide) ?_
  refine lv_icmp_ne (tgt := 51) C.1 C.2.1 dX12_burns_7 (by decide) (fun c7 => ?_) (fun c7 => ?_)
  · replace h := ineg c7 h
    exact w_X12_burns_51 C G X (lv_sub hl [0, 1] rfl) h
  · replace h := ipos c7 h
    refine lv_aload_n C.1 C.2.1 dX12_burns_10 rfl (lv_at hl 0 rfl) ?_
    refine lv_iload_n C.1 C.2.1 dX12_burns_11 rfl (lv_at hl 1 rfl) ?_
    refine lv_iconst (v := 0) C.1 C.2.1 dX12_burns_12 (by decide) ?_
    refine lv_iconst (v := 0) C.1 C.2.1 dX12_burns_13 (by decide) ?_
    refine lv_aload_n C.1 C.2.1 dX12_burns_14 rfl (lv_at hl 0 rfl) ?_
    refine lv_iload_n C.1 C.2.1 dX12_burns_15 rfl (lv_at hl 1 rfl) ?_
    refine lv_iconst (v := 0) C.1 C.2.1 dX12_burns_16 (by decide) ?_
    obtain ⟨r17, e17, h⟩ := bnd h
    refine afI X (runV C G X q_X12_of k_1855 kp_49 k_1853 (rcX12 G X kd_399) (c_X12_of l E e17) rfl hl.1 rfl (Nat.le_of_ble_eq_true rfl) ⟨Nat.le_of_ble_eq_true rfl, Nat.le_of_ble_eq_true rfl⟩ ⟨Nat.le_of_ble_eq_true rfl, Nat.le_of_ble_eq_true rfl⟩ dX12_burns_17) (fun H locs X => ?_)
    refine lv_iconst (v := 1) C.1 C.2.1 dX12_burns_20 (by decide) ?_
    refine lv_isub C.1 C.2.1 dX12_burns_21 ?_
    obtain ⟨r22, e22, h⟩ := bnd h
    refine afI X (runS C G X q_X12_greater k_1969 k_1968 (c_X12_greater l E e22) rfl hl.1 rfl (Nat.le_of_ble_eq_true rfl) ⟨Nat.le_of_ble_eq_true rfl, Nat.le_of_ble_eq_true rfl⟩ ⟨Nat.le_of_ble_eq_true rfl, Nat.le_of_ble_eq_true rfl⟩ dX12_burns_22) (fun H locs X => ?_)
    obtain ⟨σ25, e25, h⟩ := bnd h
    refine afV X (runV C G X q_X12_lays k_1837 kp_45 k_1835 (rcX12 G X kd_399) (c_X12_lays l E e25) rfl hl.1 rfl (Nat.le_of_ble_eq_true rfl) ⟨Nat.le_of_ble_eq_true rfl, Nat.le_of_ble_eq_true rfl⟩ ⟨Nat.le_of_ble_eq_true rfl, Nat.le_of_ble_eq_true rfl⟩ dX12_burns_25) (fun H locs X => ?_)
    refine lv_aload_n C.1 C.2.1 dX12_burns_28 rfl (lv_at hl 0 rfl) ?_
    refine lv_iload_n C.1 C.2.1 dX12_burns_29 rfl (lv_at hl 1 rfl) ?_
    refine lv_iconst (v := 0) C.1 C.2.1 dX12_burns_30 (by decide) ?_
    obtain ⟨r31, e31, h⟩ := bnd h
    refine afI X (runV C G X q_X12_of k_1855 kp_49 k_1853 (rcX12 G X kd_399) (c_X12_of l E e31) rfl hl.1 rfl (Nat.le_of_ble_eq_true rfl) ⟨Nat.le_of_ble_eq_true rfl, Nat.le_of_ble_eq_true rfl⟩ ⟨Nat.le_of_ble_eq_true rfl, Nat.le_of_ble_eq_true rfl⟩ dX12_burns_31) (fun H locs X => ?_)
    refine lv_if_ne (tgt := 51) C.1 C.2.1 dX12_burns_34 (by decide) (fun c34 => ?_) (fun c34 => ?_)
    · replace h := ineg c34 h
      exact w_X12_burns_51 C G X (lv_sub hl [0, 1] rfl) h
    · replace h := ipos c34 h
      refine lv_aload_n C.1 C.2.1 dX12_burns_37 rfl (lv_at hl 0 rfl) ?_
      refine lv_iload_n C.1 C.2.1 dX12_burns_38 rfl (lv_at hl 1 rfl) ?_
      refine lv_iconst (v := 1) C.1 C.2.1 dX12_burns_39 (by decide) ?_
      refine lv_iconst (v := 0) C.1 C.2.1 dX12_burns_40 (by decide) ?_
      obtain ⟨σ41, e41, h⟩ := bnd h
      refine afV X (runV C G X q_X12_lays k_1837 kp_45 k_1835 (rcX12 G X kd_399) (c_X12_lays l E e41) rfl hl.1 rfl (Nat.le_of_ble_eq_true rfl) ⟨Nat.le_of_ble_eq_true rfl, Nat.le_of_ble_eq_true rfl⟩ ⟨Nat.le_of_ble_eq_true rfl, Nat.le_of_ble_eq_true rfl⟩ dX12_burns_41) (fun H locs X => ?_)
      refine lv_aload_n C.1 C.2.1 dX12_burns_44 rfl (lv_at hl 0 rfl) ?_
      refine lv_iconst (v := 2) C.1 C.2.1 dX12_burns_45 (by decide) ?_
      refine lv_iload_n C.1 C.2.1 dX12_burns_46 rfl (lv_at hl 1 rfl) ?_
      refine lv_iconst (v := -1) C.1 C.2.1 dX12_burns_47 (by decide) ?_
      obtain ⟨σ48, e48, h⟩ := bnd h
      refine afV X (runV C G X q_X12_logs k_1962 kp_70 k_1960 (rcX12 G X kd_399) (c_X12_logs l E e48) rfl hl.1 rfl (Nat.le_of_ble_eq_true rfl) ⟨Nat.le_of_ble_eq_true rfl, Nat.le_of_ble_eq_true rfl⟩ ⟨Nat.le_of_ble_eq_true rfl, Nat.le_of_ble_eq_true rfl⟩ dX12_burns_48) (fun H locs X => ?_)
      exact w_X12_burns_51 C G X (lv_sub hl [0, 1] rfl) h

theorem c_X12_burns (l : Launch) (E : GE) {σ : Mem} {x1 : Int32} {r : Mem} (h : X12_burns x1 σ = some r) : CtV l E yX12_burns cX12_burns 2 3 [.ref (gB E + 399), .int x1] σ r := by
  refine Met.ofW (cc := cX12_burns) (maxL := 2) (ret := none) (by decide) rfl ?_
  intro p e s m args below meth c s₁ B hml hv
  obtain ⟨rfl, G, X⟩ := start hv
  have C := cxof B hml
  have hl := lv_entry [.ref (gB E + 399), .int x1] (n := 2) (Nat.le_of_ble_eq_true rfl)
  rw [lg_entry_eq]
  generalize (lg_sl [.ref (gB E + 399), .int x1] ++ List.replicate (2 - (lg_sl [.ref (gB E + 399), .int x1]).length) Slot.unset).toArray = ls at hl ⊢
  exact w_X12_burns C G X hl h

set_option maxRecDepth 20000 in
theorem w_X12_passes_119 {r : (Int32 × Mem)} (C : Cx p s m args meth c cX12_passes (some .int) 4 RX12) (G : Gf E s) : ∀ (f : Nat) {x2 : Int32} {x3 : Int32} {σ : Mem} {ls : Array Slot} {H : Heap} {locs : List Loc}, Hx E σ s H locs → lv_has ls 4 [(0, .ref (gB E + 399)), (2, .int x2), (3, .int x3)] → X12_passes_119 f x2 x3 σ = some r → W p l e (RM 206) s m args below meth c H locs 0 0 (QI E below args s r.1 r.2) (F0 m 119 ls []) := by
  intro f
  induction f with
  | zero =>
    intro x2 x3 σ ls H locs X hl h
    rw [X12_passes_119] at h
    cases h
  | succ f ih =>
    intro x2 x3 σ ls H locs X hl h
    rw [X12_passes_119] at h
    refine lv_iload_n C.1 C.2.1 dX12_passes_119 rfl (lv_at hl 2 rfl) ?_
    refine lv_aload_n C.1 C.2.1 dX12_passes_120 rfl (lv_at hl 0 rfl) ?_
    refine gfX12 C G X (k := 399) kd_399 1 (v := .ref (gB E + 400)) rfl rfl (by decide) k_1652 rfl dX12_passes_121 ?_
    refine lv_iconst (v := 3) C.1 C.2.1 dX12_passes_124 (by decide) ?_
    obtain ⟨r125, e125, h⟩ := bnd h
    refine ald C G X (k := 400) kd_400 (ag_s e125).1 dX12_passes_125 ?_
    rw [(ag_s e125).2]
    refine lv_icmp_ge (tgt := 140) C.1 C.2.1 dX12_passes_126 (by decide) (fun c126 => ?_) (fun c126 => ?_)
    · replace h := ipos c126 h
      refine lv_aload_n C.1 C.2.1 dX12_passes_140 rfl (lv_at hl 0 rfl) ?_
      refine gfX12 C G X (k := 399) kd_399 1 (v := .ref (gB E + 400)) rfl rfl (by decide) k_1652 rfl dX12_passes_141 ?_
      refine lv_iconst (v := 5) C.1 C.2.1 dX12_passes_144 (by decide) ?_
      refine lv_dup2_11 C.1 C.2.1 dX12_passes_145 rfl rfl ?_
      obtain ⟨r146, e146, h⟩ := bnd h
      refine ald C G X (k := 400) kd_400 (ag_s e146).1 dX12_passes_146 ?_
      rw [(ag_s e146).2]
      refine lv_iconst (v := 1) C.1 C.2.1 dX12_passes_147 (by decide) ?_
      refine lv_iadd C.1 C.2.1 dX12_passes_148 ?_
      obtain ⟨σ149, e149, h⟩ := bnd h
      refine ast C G X (k := 400) kd_400 (au_s e149).1 dX12_passes_149 (fun H locs X => ?_)
      rw [(au_s e149).2] at X
      refine lv_aload_n C.1 C.2.1 dX12_passes_150 rfl (lv_at hl 0 rfl) ?_
      refine gfX12 C G X (k := 399) kd_399 1 (v := .ref (gB E + 400)) rfl rfl (by decide) k_1652 rfl dX12_passes_151 ?_
      refine lv_iconst (v := 5) C.1 C.2.1 dX12_passes_154 (by decide) ?_
      obtain ⟨r155, e155, h⟩ := bnd h
      refine ald C G X (k := 400) kd_400 (ag_s e155).1 dX12_passes_155 ?_
      rw [(ag_s e155).2]
      refine lv_bipush (v := 24) C.1 C.2.1 dX12_passes_156 (by decide) ?_
      refine lv_icmp_ne (tgt := 190) C.1 C.2.1 dX12_passes_158 (by decide) (fun c158 => ?_) (fun c158 => ?_)
      · replace h := ineg c158 h
        refine lv_iload_n C.1 C.2.1 dX12_passes_190 rfl (lv_at hl 1 rfl) ?_
        rw [← Option.some.inj h]
        exact rtI C X dX12_passes_191
      · replace h := ipos c158 h
        refine lv_aload_n C.1 C.2.1 dX12_passes_161 rfl (lv_at hl 0 rfl) ?_
        refine gfX12 C G X (k := 399) kd_399 1 (v := .ref (gB E + 400)) rfl rfl (by decide) k_1652 rfl dX12_passes_162 ?_
        refine lv_iconst (v := 5) C.1 C.2.1 dX12_passes_165 (by decide) ?_
        refine lv_iconst (v := 0) C.1 C.2.1 dX12_passes_166 (by decide) ?_
        obtain ⟨σ167, e167, h⟩ := bnd h
        refine ast C G X (k := 400) kd_400 (au_s e167).1 dX12_passes_167 (fun H locs X => ?_)
        rw [(au_s e167).2] at X
        refine lv_aload_n C.1 C.2.1 dX12_passes_168 rfl (lv_at hl 0 rfl) ?_
        refine gfX12 C G X (k := 399) kd_399 1 (v := .ref (gB E + 400)) rfl rfl (by decide) k_1652 rfl dX12_passes_169 ?_
        refine lv_bipush (v := 6) C.1 C.2.1 dX12_passes_172 (by decide) ?_
        refine lv_sipush (v := 9999) C.1 C.2.1 dX12_passes_174 (by decide) ?_
        refine lv_aload_n C.1 C.2.1 dX12_passes_177 rfl (lv_at hl 0 rfl) ?_
        refine gfX12 C G X (k := 399) kd_399 1 (v := .ref (gB E + 400)) rfl rfl (by decide) k_1652 rfl dX12_passes_178 ?_
        refine lv_bipush (v := 6) C.1 C.2.1 dX12_passes_181 (by decide) ?_
        obtain ⟨r183, e183, h⟩ := bnd h
        refine ald C G X (k := 400) kd_400 (ag_s e183).1 dX12_passes_183 ?_
        rw [(ag_s e183).2]
        refine lv_iconst (v := 1) C.1 C.2.1 dX12_passes_184 (by decide) ?_
        refine lv_iadd C.1 C.2.1 dX12_passes_185 ?_
        obtain ⟨r186, e186, h⟩ := bnd h
        refine afI X (runS C G X q_X12_lesser k_1958 k_1957 (c_X12_lesser l E e186) rfl hl.1 rfl (Nat.le_of_ble_eq_true rfl) ⟨Nat.le_of_ble_eq_true rfl, Nat.le_of_ble_eq_true rfl⟩ ⟨Nat.le_of_ble_eq_true rfl, Nat.le_of_ble_eq_true rfl⟩ dX12_passes_186) (fun H locs X => ?_)
        obtain ⟨σ189, e189, h⟩ := bnd h
        refine ast C G X (k := 400) kd_400 (au_s e189).1 dX12_passes_189 (fun H locs X => ?_)
        rw [(au_s e189).2] at X
        refine lv_iload_n C.1 C.2.1 dX12_passes_190 rfl (lv_at hl 1 rfl) ?_
        rw [← Option.some.inj h]
        exact rtI C X dX12_passes_191
    · replace h := ineg c126 h
      refine lv_aload_n C.1 C.2.1 dX12_passes_129 rfl (lv_at hl 0 rfl) ?_
      refine lv_iload_n C.1 C.2.1 dX12_passes_130 rfl (lv_at hl 2 rfl) ?_
      obtain ⟨σ131, e131, h⟩ := bnd h
      refine afV X (runV C G X q_X12_burns k_1966 kp_71 k_1964 (rcX12 G X kd_399) (c_X12_burns l E e131) rfl hl.1 rfl (Nat.le_of_ble_eq_true rfl) ⟨Nat.le_of_ble_eq_true rfl, Nat.le_of_ble_eq_true rfl⟩ ⟨Nat.le_of_ble_eq_true rfl, Nat.le_of_ble_eq_true rfl⟩ dX12_passes_131) (fun H locs X => ?_)
      refine lv_iinc (v := (x3 + 1)) (lv' := [(3, .int (x3 + 1)), (0, .ref (gB E + 399)), (2, .int x2)]) C.1 C.2.1 dX12_passes_134 hl (k := 2) rfl rfl (by decide) rfl (fun ls hl => ?_)
      refine lv_goto (tgt := 119) C.1 C.2.1 dX12_passes_137 (by decide) ?_
      exact ih X (lv_sub hl [1, 2, 0] rfl) h

set_option maxRecDepth 20000 in
theorem w_X12_passes_69 {r : (Int32 × Mem)} (C : Cx p s m args meth c cX12_passes (some .int) 4 RX12) (G : Gf E s) : ∀ (f : Nat) {x2 : Int32} {x3 : Int32} {σ : Mem} {ls : Array Slot} {H : Heap} {locs : List Loc}, Hx E σ s H locs → lv_has ls 4 [(0, .ref (gB E + 399)), (2, .int x2), (3, .int x3)] → X12_passes_69 f x2 x3 σ = some r → W p l e (RM 206) s m args below meth c H locs 0 0 (QI E below args s r.1 r.2) (F0 m 69 ls []) := by
  intro f
  induction f with
  | zero =>
    intro x2 x3 σ ls H locs X hl h
    rw [X12_passes_69] at h
    cases h
  | succ f ih =>
    intro x2 x3 σ ls H locs X hl h
    rw [X12_passes_69] at h
    refine lv_iload_n C.1 C.2.1 dX12_passes_69 rfl (lv_at hl 2 rfl) ?_
    refine lv_aload_n C.1 C.2.1 dX12_passes_70 rfl (lv_at hl 0 rfl) ?_
    refine gfX12 C G X (k := 399) kd_399 1 (v := .ref (gB E + 400)) rfl rfl (by decide) k_1652 rfl dX12_passes_71 ?_
    refine lv_iconst (v := 4) C.1 C.2.1 dX12_passes_74 (by decide) ?_
    obtain ⟨r75, e75, h⟩ := bnd h
    refine ald C G X (k := 400) kd_400 (ag_s e75).1 dX12_passes_75 ?_
    rw [(ag_s e75).2]
    refine lv_icmp_ge (tgt := 117) C.1 C.2.1 dX12_passes_76 (by decide) (fun c76 => ?_) (fun c76 => ?_)
    · replace h := ipos c76 h
      refine lv_iconst (v := 0) C.1 C.2.1 dX12_passes_117 (by decide) ?_
      refine lv_istore_n (lv' := [(3, .int (0 : Int32)), (0, .ref (gB E + 399)), (2, .int x2)]) C.1 C.2.1 dX12_passes_118 rfl hl (by decide) rfl (fun ls hl => ?_)
      exact w_X12_passes_119 C G FU X (lv_sub hl [1, 2, 0] rfl) h
    · replace h := ineg c76 h
      refine lv_aload_n C.1 C.2.1 dX12_passes_79 rfl (lv_at hl 0 rfl) ?_
      refine lv_iload_n C.1 C.2.1 dX12_passes_80 rfl (lv_at hl 2 rfl) ?_
      refine lv_aload_n C.1 C.2.1 dX12_passes_81 rfl (lv_at hl 0 rfl) ?_
      refine lv_iload_n C.1 C.2.1 dX12_passes_82 rfl (lv_at hl 2 rfl) ?_
      refine lv_iconst (v := 0) C.1 C.2.1 dX12_passes_83 (by decide) ?_
      obtain ⟨r84, e84, h⟩ := bnd h
      refine afI X (runV C G X q_X12_ofWalker k_1915 kp_60 k_1913 (rcX12 G X kd_399) (c_X12_ofWalker l E e84) rfl hl.1 rfl (Nat.le_of_ble_eq_true rfl) ⟨Nat.le_of_ble_eq_true rfl, Nat.le_of_ble_eq_true rfl⟩ ⟨Nat.le_of_ble_eq_true rfl, Nat.le_of_ble_eq_true rfl⟩ dX12_passes_84) (fun H locs X => ?_)
      obtain ⟨r87, σ87, e87, h⟩ := bnd2 h
      refine afI (r0 := r87) (σ' := σ87) X (runV C G X q_X12_doesLight k_1899 kp_56 k_1897 (rcX12 G X kd_399) (c_X12_doesLight l E e87) rfl hl.1 rfl (Nat.le_of_ble_eq_true rfl) ⟨Nat.le_of_ble_eq_true rfl, Nat.le_of_ble_eq_true rfl⟩ ⟨Nat.le_of_ble_eq_true rfl, Nat.le_of_ble_eq_true rfl⟩ dX12_passes_87) (fun H locs X => ?_)
      refine lv_if_ne (tgt := 96) C.1 C.2.1 dX12_passes_90 (by decide) (fun c90 => ?_) (fun c90 => ?_)
      · replace h := ineg c90 h
        refine lv_aload_n C.1 C.2.1 dX12_passes_96 rfl (lv_at hl 0 rfl) ?_
        refine lv_iload_n C.1 C.2.1 dX12_passes_97 rfl (lv_at hl 2 rfl) ?_
        refine lv_aload_n C.1 C.2.1 dX12_passes_98 rfl (lv_at hl 0 rfl) ?_
        refine lv_iload_n C.1 C.2.1 dX12_passes_99 rfl (lv_at hl 2 rfl) ?_
        refine lv_iconst (v := 0) C.1 C.2.1 dX12_passes_100 (by decide) ?_
        obtain ⟨r101, e101, h⟩ := bnd h
        refine afI X (runV C G X q_X12_ofWalker k_1915 kp_60 k_1913 (rcX12 G X kd_399) (c_X12_ofWalker l E e101) rfl hl.1 rfl (Nat.le_of_ble_eq_true rfl) ⟨Nat.le_of_ble_eq_true rfl, Nat.le_of_ble_eq_true rfl⟩ ⟨Nat.le_of_ble_eq_true rfl, Nat.le_of_ble_eq_true rfl⟩ dX12_passes_101) (fun H locs X => ?_)
        refine lv_iconst (v := 0) C.1 C.2.1 dX12_passes_104 (by decide) ?_
        obtain ⟨σ105, e105, h⟩ := bnd h
        refine afV X (runV C G X q_X12_kindles k_1955 kp_69 k_1953 (rcX12 G X kd_399) (c_X12_kindles l E e105) rfl hl.1 rfl (Nat.le_of_ble_eq_true rfl) ⟨Nat.le_of_ble_eq_true rfl, Nat.le_of_ble_eq_true rfl⟩ ⟨Nat.le_of_ble_eq_true rfl, Nat.le_of_ble_eq_true rfl⟩ dX12_passes_105) (fun H locs X => ?_)
        refine lv_iinc (v := (x2 + 1)) (lv' := [(2, .int (x2 + 1)), (0, .ref (gB E + 399)), (3, .int x3)]) C.1 C.2.1 dX12_passes_108 hl (k := 1) rfl rfl (by decide) rfl (fun ls hl => ?_)
        refine lv_iinc (v := (x3 + 1)) (lv' := [(3, .int (x3 + 1)), (2, .int (x2 + 1)), (0, .ref (gB E + 399))]) C.1 C.2.1 dX12_passes_111 hl (k := 2) rfl rfl (by decide) rfl (fun ls hl => ?_)
        refine lv_goto (tgt := 69) C.1 C.2.1 dX12_passes_114 (by decide) ?_
        exact ih X (lv_sub hl [2, 1, 0] rfl) h
      · replace h := ipos c90 h
        refine lv_goto (tgt := 111) C.1 C.2.1 dX12_passes_93 (by decide) ?_
        refine lv_iinc (v := (x3 + 1)) (lv' := [(3, .int (x3 + 1)), (0, .ref (gB E + 399)), (2, .int x2)]) C.1 C.2.1 dX12_passes_111 hl (k := 2) rfl rfl (by decide) rfl (fun ls hl => ?_)
        refine lv_goto (tgt := 69) C.1 C.2.1 dX12_passes_114 (by decide) ?_
        exact ih X (lv_sub hl [1, 2, 0] rfl) h

set_option maxRecDepth 20000 in
theorem w_X12_passes_65 {r : (Int32 × Mem)} {σ : Mem} {ls : Array Slot} {H : Heap} {locs : List Loc} (C : Cx p s m args meth c cX12_passes (some .int) 4 RX12) (G : Gf E s) (X : Hx E σ s H locs) (hl : lv_has ls 4 [(0, .ref (gB E + 399))]) (h : X12_passes_65 σ = some r) : W p l e (RM 206) s m args below meth c H locs 0 0 (QI E below args s r.1 r.2) (F0 m 65 ls []) := by
  rw [X12_passes_65] at h
  refine lv_iconst (v := 0) C.1 C.2.1 dX12_passes_65 (by decide) ?_
  refine lv_istore_n (lv' := [(2, .int (0 : Int32)), (0, .ref (gB E + 399))]) C.1 C.2.1 dX12_passes_66 rfl hl (by decide) rfl (fun ls hl => ?_)
  refine lv_iconst (v := 0) C.1 C.2.1 dX12_passes_67 (by decide) ?_
  refine lv_istore_n (lv' := [(3, .int (0 : Int32)), (2, .int (0 : Int32)), (0, .ref (gB E + 399))]) C.1 C.2.1 dX12_passes_68 rfl hl (by decide) rfl (fun ls hl => ?_)
  exact w_X12_passes_69 C G FU X (lv_sub hl [2, 1, 0] rfl) h

set_option maxRecDepth 20000 in
theorem w_X12_passes_34 {r : (Int32 × Mem)} (C : Cx p s m args meth c cX12_passes (some .int) 4 RX12) (G : Gf E s) : ∀ (f : Nat) {x2 : Int32} {σ : Mem} {ls : Array Slot} {H : Heap} {locs : List Loc}, Hx E σ s H locs → lv_has ls 4 [(0, .ref (gB E + 399)), (2, .int x2)] → X12_passes_34 f x2 σ = some r → W p l e (RM 206) s m args below meth c H locs 0 0 (QI E below args s r.1 r.2) (F0 m 34 ls []) := by
  intro f
  induction f with
  | zero =>
    intro x2 σ ls H locs X hl h
    rw [X12_passes_34] at h
    cases h
  | succ f ih =>
    intro x2 σ ls H locs X hl h
    rw [X12_passes_34] at h
    refine lv_iload_n C.1 C.2.1 dX12_passes_34 rfl (lv_at hl 1 rfl) ?_
    refine lv_aload_n C.1 C.2.1 dX12_passes_35 rfl (lv_at hl 0 rfl) ?_
    refine gfX12 C G X (k := 399) kd_399 1 (v := .ref (gB E + 400)) rfl rfl (by decide) k_1652 rfl dX12_passes_36 ?_
    refine lv_iconst (v := 4) C.1 C.2.1 dX12_passes_39 (by decide) ?_
    obtain ⟨r40, e40, h⟩ := bnd h
    refine ald C G X (k := 400) kd_400 (ag_s e40).1 dX12_passes_40 ?_
    rw [(ag_s e40).2]
    refine lv_icmp_ge (tgt := 65) C.1 C.2.1 dX12_passes_41 (by decide) (fun c41 => ?_) (fun c41 => ?_)
    · replace h := ipos c41 h
      exact w_X12_passes_65 C G X (lv_sub hl [0] rfl) h
    · replace h := ineg c41 h
      refine lv_aload_n C.1 C.2.1 dX12_passes_44 rfl (lv_at hl 0 rfl) ?_
      refine gfX12 C G X (k := 399) kd_399 1 (v := .ref (gB E + 400)) rfl rfl (by decide) k_1652 rfl dX12_passes_45 ?_
      refine lv_bipush (v := 8) C.1 C.2.1 dX12_passes_48 (by decide) ?_
      obtain ⟨r50, e50, h⟩ := bnd h
      refine ald C G X (k := 400) kd_400 (ag_s e50).1 dX12_passes_50 ?_
      rw [(ag_s e50).2]
      refine lv_if_ne (tgt := 65) C.1 C.2.1 dX12_passes_51 (by decide) (fun c51 => ?_) (fun c51 => ?_)
      · replace h := ineg c51 h
        exact w_X12_passes_65 C G X (lv_sub hl [0] rfl) h
      · replace h := ipos c51 h
        refine lv_aload_n C.1 C.2.1 dX12_passes_54 rfl (lv_at hl 0 rfl) ?_
        refine lv_iload_n C.1 C.2.1 dX12_passes_55 rfl (lv_at hl 1 rfl) ?_
        obtain ⟨σ56, e56, h⟩ := bnd h
        refine afV X (runV C G X q_X12_steps k_1936 kp_65 k_1934 (rcX12 G X kd_399) (c_X12_steps l E e56) rfl hl.1 rfl (Nat.le_of_ble_eq_true rfl) ⟨Nat.le_of_ble_eq_true rfl, Nat.le_of_ble_eq_true rfl⟩ ⟨Nat.le_of_ble_eq_true rfl, Nat.le_of_ble_eq_true rfl⟩ dX12_passes_56) (fun H locs X => ?_)
        refine lv_iinc (v := (x2 + 1)) (lv' := [(2, .int (x2 + 1)), (0, .ref (gB E + 399))]) C.1 C.2.1 dX12_passes_59 hl (k := 1) rfl rfl (by decide) rfl (fun ls hl => ?_)
        refine lv_goto (tgt := 34) C.1 C.2.1 dX12_passes_62 (by decide) ?_
        exact ih X (lv_sub hl [1, 0] rfl) h

set_option maxRecDepth 20000 in
theorem w_X12_passes_31 {r : (Int32 × Mem)} {σ : Mem} {y1 : Int32} {y2 : Int32} {ls : Array Slot} {H : Heap} {locs : List Loc} (C : Cx p s m args meth c cX12_passes (some .int) 4 RX12) (G : Gf E s) (X : Hx E σ s H locs) (hl : lv_has ls 4 [(0, .ref (gB E + 399))]) (h : X12_passes_31 y1 y2 σ = some r) : W p l e (RM 206) s m args below meth c H locs 0 0 (QI E below args s r.1 r.2) (F0 m 31 ls [.int y2, .int y1, .ref (gB E + 400)]) := by
  rw [X12_passes_31] at h
  obtain ⟨σ31, e31, h⟩ := bnd h
  refine ast C G X (k := 400) kd_400 (au_s e31).1 dX12_passes_31 (fun H locs X => ?_)
  rw [(au_s e31).2] at X
  refine lv_iconst (v := 0) C.1 C.2.1 dX12_passes_32 (by decide) ?_
  refine lv_istore_n (lv' := [(2, .int (0 : Int32)), (0, .ref (gB E + 399))]) C.1 C.2.1 dX12_passes_33 rfl hl (by decide) rfl (fun ls hl => ?_)
  exact w_X12_passes_34 C G FU X (lv_sub hl [1, 0] rfl) h

set_option maxRecDepth 20000 in
theorem w_X12_passes_30 {r : (Int32 × Mem)} {σ : Mem} {y1 : Int32} {ls : Array Slot} {H : Heap} {locs : List Loc} (C : Cx p s m args meth c cX12_passes (some .int) 4 RX12) (G : Gf E s) (X : Hx E σ s H locs) (hl : lv_has ls 4 [(0, .ref (gB E + 399))]) (h : X12_passes_30 y1 σ = some r) : W p l e (RM 206) s m args below meth c H locs 0 0 (QI E below args s r.1 r.2) (F0 m 30 ls [.int y1, .ref (gB E + 400)]) := by
  rw [X12_passes_30] at h
  refine lv_iconst (v := 0) C.1 C.2.1 dX12_passes_30 (by decide) ?_
  exact w_X12_passes_31 C G X (lv_sub hl [0] rfl) h

set_option maxRecDepth 20000 in
theorem w_X12_passes {r : (Int32 × Mem)} {σ : Mem} {x1 : Int32} {ls : Array Slot} {H : Heap} {locs : List Loc} (C : Cx p s m args meth c cX12_passes (some .int) 4 RX12) (G : Gf E s) (X : Hx E σ s H locs) (hl : lv_has ls 4 [(0, .ref (gB E + 399)), (1, .int x1)]) (h : X12_passes x1 σ = some r) : W p l e (RM 206) s m args below meth c H locs 0 0 (QI E below args s r.1 r.2) (F0 m 0 ls []) := by
  rw [X12_passes] at h
  refine lv_aload_n C.1 C.2.1 dX12_passes_0 rfl (lv_at hl 0 rfl) ?_
  refine gfX12 C G X (k := 399) kd_399 1 (v := .ref (gB E + 400)) rfl rfl (by decide) k_1652 rfl dX12_passes_1 ?_
  refine lv_bipush (v := 8) C.1 C.2.1 dX12_passes_4 (by decide) ?_
  refine lv_iload_n C.1 C.2.1 dX12_passes_6 rfl (lv_at hl 1 rfl) ?_
  refine lv_if_eq (tgt := 30) C.1 C.2.1 dX12_passes_7 (by decide) (fun c7 => ?_) (fun c7 => ?_)
  · replace h := ipos c7 h
    exact w_X12_passes_30 C G X (lv_sub hl [0] rfl) h
  · replace h := ineg c7 h
    refine lv_aload_n C.1 C.2.1 dX12_passes_10 rfl (lv_at hl 0 rfl) ?_
    refine lv_bipush (v := 100) C.1 C.2.1 dX12_passes_11 (by decide) ?_
    obtain ⟨r13, σ13, e13, h⟩ := bnd2 h
    refine afI (r0 := r13) (σ' := σ13) X (runV C G X q_X12_draw k_1931 kp_64 k_1929 (rcX12 G X kd_399) (c_X12_draw l E e13) rfl hl.1 rfl (Nat.le_of_ble_eq_true rfl) ⟨Nat.le_of_ble_eq_true rfl, Nat.le_of_ble_eq_true rfl⟩ ⟨Nat.le_of_ble_eq_true rfl, Nat.le_of_ble_eq_true rfl⟩ dX12_passes_13) (fun H locs X => ?_)
    refine lv_aload_n C.1 C.2.1 dX12_passes_16 rfl (lv_at hl 0 rfl) ?_
    refine gfX12 C G X (k := 399) kd_399 1 (v := .ref (gB E + 400)) rfl rfl (by decide) k_1652 rfl dX12_passes_17 ?_
    refine lv_bipush (v := 7) C.1 C.2.1 dX12_passes_20 (by decide) ?_
    obtain ⟨r22, e22, h⟩ := bnd h
    refine ald C G X (k := 400) kd_400 (ag_s e22).1 dX12_passes_22 ?_
    rw [(ag_s e22).2]
    refine lv_icmp_ge (tgt := 30) C.1 C.2.1 dX12_passes_23 (by decide) (fun c23 => ?_) (fun c23 => ?_)
    · replace h := ipos c23 h
      exact w_X12_passes_30 C G X (lv_sub hl [0] rfl) h
    · replace h := ineg c23 h
      refine lv_iconst (v := 1) C.1 C.2.1 dX12_passes_26 (by decide) ?_
      refine lv_goto (tgt := 31) C.1 C.2.1 dX12_passes_27 (by decide) ?_
      exact w_X12_passes_31 C G X (lv_sub hl [0] rfl) h

theorem c_X12_passes (l : Launch) (E : GE) {σ : Mem} {x1 : Int32} {r : (Int32 × Mem)} (h : X12_passes x1 σ = some r) : CtI l E yX12_passes cX12_passes 4 .int 206 [.ref (gB E + 399), .int x1] σ r.1 r.2 := by
  refine Met.ofW (cc := cX12_passes) (maxL := 4) (ret := (some .int)) (by decide) rfl ?_
  intro p e s m args below meth c s₁ B hml hv
  obtain ⟨rfl, G, X⟩ := start hv
  have C := cxof B hml
  have hl := lv_entry [.ref (gB E + 399), .int x1] (n := 4) (Nat.le_of_ble_eq_true rfl)
  rw [lg_entry_eq]
  generalize (lg_sl [.ref (gB E + 399), .int x1] ++ List.replicate (4 - (lg_sl [.ref (gB E + 399), .int x1]).length) Slot.unset).toArray = ls at hl ⊢
  exact w_X12_passes C G X hl h

set_option maxRecDepth 20000 in
theorem w_X12_goes_5 {r : (Int32 × Mem)} (C : Cx p s m args meth c cX12_goes (some .int) 5 RX12) (G : Gf E s) : ∀ (f : Nat) {x1 : Int32} {x2 : Int32} {x3 : Int32} {x4 : Int32} {σ : Mem} {ls : Array Slot} {H : Heap} {locs : List Loc}, Hx E σ s H locs → lv_has ls 5 [(0, .ref (gB E + 399)), (1, .int x1), (2, .int x2), (3, .int x3), (4, .int x4)] → X12_goes_5 f x1 x2 x3 x4 σ = some r → W p l e (RM 207) s m args below meth c H locs 0 0 (QI E below args s r.1 r.2) (F0 m 5 ls []) := by
  intro f
  induction f with
  | zero =>
    intro x1 x2 x3 x4 σ ls H locs X hl h
    rw [X12_goes_5] at h
    cases h
  | succ f ih =>
    intro x1 x2 x3 x4 σ ls H locs X hl h
    rw [X12_goes_5] at h
    refine lv_iload C.1 C.2.1 dX12_goes_5 (lv_at hl 4 rfl) ?_
    refine lv_iload_n C.1 C.2.1 dX12_goes_7 rfl (lv_at hl 1 rfl) ?_
    refine lv_icmp_ge (tgt := 25) C.1 C.2.1 dX12_goes_8 (by decide) (fun c8 => ?_) (fun c8 => ?_)
    · replace h := ipos c8 h
      refine lv_iload_n C.1 C.2.1 dX12_goes_25 rfl (lv_at hl 3 rfl) ?_
      rw [← Option.some.inj h]
      exact rtI C X dX12_goes_26
    · replace h := ineg c8 h
      refine lv_iload_n C.1 C.2.1 dX12_goes_11 rfl (lv_at hl 3 rfl) ?_
      refine lv_aload_n C.1 C.2.1 dX12_goes_12 rfl (lv_at hl 0 rfl) ?_
      refine lv_iload_n C.1 C.2.1 dX12_goes_13 rfl (lv_at hl 2 rfl) ?_
      obtain ⟨r14, σ14, e14, h⟩ := bnd2 h
      refine afI (r0 := r14) (σ' := σ14) X (runV C G X q_X12_passes k_1927 kp_63 k_1925 (rcX12 G X kd_399) (c_X12_passes l E e14) rfl hl.1 rfl (Nat.le_of_ble_eq_true rfl) ⟨Nat.le_of_ble_eq_true rfl, Nat.le_of_ble_eq_true rfl⟩ ⟨Nat.le_of_ble_eq_true rfl, Nat.le_of_ble_eq_true rfl⟩ dX12_goes_14) (fun H locs X => ?_)
      refine lv_iadd C.1 C.2.1 dX12_goes_17 ?_
      refine lv_istore_n (lv' := [(3, .int (x3 + r14)), (0, .ref (gB E + 399)), (1, .int x1), (2, .int x2), (4, .int x4)]) C.1 C.2.1 dX12_goes_18 rfl hl (by decide) rfl (fun ls hl => ?_)
      refine lv_iinc (v := (x4 + 1)) (lv' := [(4, .int (x4 + 1)), (3, .int (x3 + r14)), (0, .ref (gB E + 399)), (1, .int x1), (2, .int x2)]) C.1 C.2.1 dX12_goes_19 hl (k := 4) rfl rfl (by decide) rfl (fun ls hl => ?_)
      refine lv_goto (tgt := 5) C.1 C.2.1 dX12_goes_22 (by decide) ?_
      exact ih X (lv_sub hl [2, 3, 4, 1, 0] rfl) h

set_option maxRecDepth 20000 in
theorem w_X12_goes {r : (Int32 × Mem)} {σ : Mem} {x1 : Int32} {x2 : Int32} {ls : Array Slot} {H : Heap} {locs : List Loc} (C : Cx p s m args meth c cX12_goes (some .int) 5 RX12) (G : Gf E s) (X : Hx E σ s H locs) (hl : lv_has ls 5 [(0, .ref (gB E + 399)), (1, .int x1), (2, .int x2)]) (h : X12_goes x1 x2 σ = some r) : W p l e (RM 207) s m args below meth c H locs 0 0 (QI E below args s r.1 r.2) (F0 m 0 ls []) := by
  rw [X12_goes] at h
  refine lv_iconst (v := 0) C.1 C.2.1 dX12_goes_0 (by decide) ?_
  refine lv_istore_n (lv' := [(3, .int (0 : Int32)), (0, .ref (gB E + 399)), (1, .int x1), (2, .int x2)]) C.1 C.2.1 dX12_goes_1 rfl hl (by decide) rfl (fun ls hl => ?_)
  refine lv_iconst (v := 0) C.1 C.2.1 dX12_goes_2 (by decide) ?_
  refine lv_istore (lv' := [(4, .int (0 : Int32)), (3, .int (0 : Int32)), (0, .ref (gB E + 399)), (1, .int x1), (2, .int x2)]) C.1 C.2.1 dX12_goes_3 hl (by decide) rfl (fun ls hl => ?_)
  exact w_X12_goes_5 C G FU X (lv_sub hl [2, 3, 4, 1, 0] rfl) h

theorem c_X12_goes (l : Launch) (E : GE) {σ : Mem} {x1 : Int32} {x2 : Int32} {r : (Int32 × Mem)} (h : X12_goes x1 x2 σ = some r) : CtI l E yX12_goes cX12_goes 5 .int 207 [.ref (gB E + 399), .int x1, .int x2] σ r.1 r.2 := by
  refine Met.ofW (cc := cX12_goes) (maxL := 5) (ret := (some .int)) (by decide) rfl ?_
  intro p e s m args below meth c s₁ B hml hv
  obtain ⟨rfl, G, X⟩ := start hv
  have C := cxof B hml
  have hl := lv_entry [.ref (gB E + 399), .int x1, .int x2] (n := 5) (Nat.le_of_ble_eq_true rfl)
  rw [lg_entry_eq]
  generalize (lg_sl [.ref (gB E + 399), .int x1, .int x2] ++ List.replicate (5 - (lg_sl [.ref (gB E + 399), .int x1, .int x2]).length) Slot.unset).toArray = ls at hl ⊢
  exact w_X12_goes C G X hl h

set_option maxRecDepth 20000 in
theorem w_X12_burning_4 {r : Int32} {σ : Mem} (C : Cx p s m args meth c cX12_burning (some .int) 3 RX12) (G : Gf E s) : ∀ (f : Nat) {x1 : Int32} {x2 : Int32} {ls : Array Slot} {H : Heap} {locs : List Loc}, Hx E σ s H locs → lv_has ls 3 [(0, .ref (gB E + 399)), (1, .int x1), (2, .int x2)] → X12_burning_4 σ f x1 x2 = some r → W p l e (RM 2) s m args below meth c H locs 0 0 (QI E below args s r σ) (F0 m 4 ls []) := by
  intro f
  induction f with
  | zero =>
    intro x1 x2 ls H locs X hl h
    rw [X12_burning_4] at h
    cases h
  | succ f ih =>
    intro x1 x2 ls H locs X hl h
    rw [X12_burning_4] at h
    refine lv_iload_n C.1 C.2.1 dX12_burning_4 rfl (lv_at hl 2 rfl) ?_
    refine lv_aload_n C.1 C.2.1 dX12_burning_5 rfl (lv_at hl 0 rfl) ?_
    refine gfX12 C G X (k := 399) kd_399 1 (v := .ref (gB E + 400)) rfl rfl (by decide) k_1652 rfl dX12_burning_6 ?_
    refine lv_iconst (v := 3) C.1 C.2.1 dX12_burning_9 (by decide) ?_
    obtain ⟨r10, e10, h⟩ := bnd h
    refine ald C G X (k := 400) kd_400 (ag_s e10).1 dX12_burning_10 ?_
    rw [(ag_s e10).2]
    refine lv_icmp_ge (tgt := 31) C.1 C.2.1 dX12_burning_11 (by decide) (fun c11 => ?_) (fun c11 => ?_)
    · replace h := ipos c11 h
      refine lv_iload_n C.1 C.2.1 dX12_burning_31 rfl (lv_at hl 1 rfl) ?_
      rw [← Option.some.inj h]
      exact rtI C X dX12_burning_32
    · replace h := ineg c11 h
      refine lv_iload_n C.1 C.2.1 dX12_burning_14 rfl (lv_at hl 1 rfl) ?_
      refine lv_aload_n C.1 C.2.1 dX12_burning_15 rfl (lv_at hl 0 rfl) ?_
      refine lv_iload_n C.1 C.2.1 dX12_burning_16 rfl (lv_at hl 2 rfl) ?_
      refine lv_iconst (v := 1) C.1 C.2.1 dX12_burning_17 (by decide) ?_
      obtain ⟨r18, e18, h⟩ := bnd h
      refine afI X (runV C G X q_X12_of k_1855 kp_49 k_1853 (rcX12 G X kd_399) (c_X12_of l E e18) rfl hl.1 rfl (Nat.le_of_ble_eq_true rfl) ⟨Nat.le_of_ble_eq_true rfl, Nat.le_of_ble_eq_true rfl⟩ ⟨Nat.le_of_ble_eq_true rfl, Nat.le_of_ble_eq_true rfl⟩ dX12_burning_18) (fun H locs X => ?_)
      refine lv_iload_n C.1 C.2.1 dX12_burning_21 rfl (lv_at hl 2 rfl) ?_
      refine lv_ishl C.1 C.2.1 dX12_burning_22 ?_
      refine lv_ior C.1 C.2.1 dX12_burning_23 ?_
      refine lv_istore_n (lv' := [(1, .int (x1 ||| (r18 <<< (x2 &&& 31)))), (0, .ref (gB E + 399)), (2, .int x2)]) C.1 C.2.1 dX12_burning_24 rfl hl (by decide) rfl (fun ls hl => ?_)
      refine lv_iinc (v := (x2 + 1)) (lv' := [(2, .int (x2 + 1)), (1, .int (x1 ||| (r18 <<< (x2 &&& 31)))), (0, .ref (gB E + 399))]) C.1 C.2.1 dX12_burning_25 hl (k := 2) rfl rfl (by decide) rfl (fun ls hl => ?_)
      refine lv_goto (tgt := 4) C.1 C.2.1 dX12_burning_28 (by decide) ?_
      exact ih X (lv_sub hl [2, 1, 0] rfl) h

set_option maxRecDepth 20000 in
theorem w_X12_burning {r : Int32} {σ : Mem} {ls : Array Slot} {H : Heap} {locs : List Loc} (C : Cx p s m args meth c cX12_burning (some .int) 3 RX12) (G : Gf E s) (X : Hx E σ s H locs) (hl : lv_has ls 3 [(0, .ref (gB E + 399))]) (h : X12_burning σ = some r) : W p l e (RM 2) s m args below meth c H locs 0 0 (QI E below args s r σ) (F0 m 0 ls []) := by
  rw [X12_burning] at h
  refine lv_iconst (v := 0) C.1 C.2.1 dX12_burning_0 (by decide) ?_
  refine lv_istore_n (lv' := [(1, .int (0 : Int32)), (0, .ref (gB E + 399))]) C.1 C.2.1 dX12_burning_1 rfl hl (by decide) rfl (fun ls hl => ?_)
  refine lv_iconst (v := 0) C.1 C.2.1 dX12_burning_2 (by decide) ?_
  refine lv_istore_n (lv' := [(2, .int (0 : Int32)), (1, .int (0 : Int32)), (0, .ref (gB E + 399))]) C.1 C.2.1 dX12_burning_3 rfl hl (by decide) rfl (fun ls hl => ?_)
  exact w_X12_burning_4 C G FU X (lv_sub hl [2, 1, 0] rfl) h

theorem c_X12_burning (l : Launch) (E : GE) {σ : Mem} {r : Int32} (h : X12_burning σ = some r) : CtI l E yX12_burning cX12_burning 3 .int 2 [.ref (gB E + 399)] σ r σ := by
  refine Met.ofW (cc := cX12_burning) (maxL := 3) (ret := (some .int)) (by decide) rfl ?_
  intro p e s m args below meth c s₁ B hml hv
  obtain ⟨rfl, G, X⟩ := start hv
  have C := cxof B hml
  have hl := lv_entry [.ref (gB E + 399)] (n := 3) (Nat.le_of_ble_eq_true rfl)
  rw [lg_entry_eq]
  generalize (lg_sl [.ref (gB E + 399)] ++ List.replicate (3 - (lg_sl [.ref (gB E + 399)]).length) Slot.unset).toArray = ls at hl ⊢
  exact w_X12_burning C G X hl h

set_option maxRecDepth 20000 in
theorem w_X12_oilOfAll_4 {r : Int32} {σ : Mem} (C : Cx p s m args meth c cX12_oilOfAll (some .int) 3 RX12) (G : Gf E s) : ∀ (f : Nat) {x1 : Int32} {x2 : Int32} {ls : Array Slot} {H : Heap} {locs : List Loc}, Hx E σ s H locs → lv_has ls 3 [(0, .ref (gB E + 399)), (1, .int x1), (2, .int x2)] → X12_oilOfAll_4 σ f x1 x2 = some r → W p l e (RM 2) s m args below meth c H locs 0 0 (QI E below args s r σ) (F0 m 4 ls []) := by
  intro f
  induction f with
  | zero =>
    intro x1 x2 ls H locs X hl h
    rw [X12_oilOfAll_4] at h
    cases h
  | succ f ih =>
    intro x1 x2 ls H locs X hl h
    rw [X12_oilOfAll_4] at h
    refine lv_iload_n C.1 C.2.1 dX12_oilOfAll_4 rfl (lv_at hl 2 rfl) ?_
    refine lv_aload_n C.1 C.2.1 dX12_oilOfAll_5 rfl (lv_at hl 0 rfl) ?_
    refine gfX12 C G X (k := 399) kd_399 1 (v := .ref (gB E + 400)) rfl rfl (by decide) k_1652 rfl dX12_oilOfAll_6 ?_
    refine lv_iconst (v := 3) C.1 C.2.1 dX12_oilOfAll_9 (by decide) ?_
    obtain ⟨r10, e10, h⟩ := bnd h
    refine ald C G X (k := 400) kd_400 (ag_s e10).1 dX12_oilOfAll_10 ?_
    rw [(ag_s e10).2]
    refine lv_icmp_ge (tgt := 29) C.1 C.2.1 dX12_oilOfAll_11 (by decide) (fun c11 => ?_) (fun c11 => ?_)
    · replace h := ipos c11 h
      refine lv_iload_n C.1 C.2.1 dX12_oilOfAll_29 rfl (lv_at hl 1 rfl) ?_
      rw [← Option.some.inj h]
      exact rtI C X dX12_oilOfAll_30
    · replace h := ineg c11 h
      refine lv_iload_n C.1 C.2.1 dX12_oilOfAll_14 rfl (lv_at hl 1 rfl) ?_
      refine lv_aload_n C.1 C.2.1 dX12_oilOfAll_15 rfl (lv_at hl 0 rfl) ?_
      refine lv_iload_n C.1 C.2.1 dX12_oilOfAll_16 rfl (lv_at hl 2 rfl) ?_
      refine lv_iconst (v := 0) C.1 C.2.1 dX12_oilOfAll_17 (by decide) ?_
      obtain ⟨r18, e18, h⟩ := bnd h
      refine afI X (runV C G X q_X12_of k_1855 kp_49 k_1853 (rcX12 G X kd_399) (c_X12_of l E e18) rfl hl.1 rfl (Nat.le_of_ble_eq_true rfl) ⟨Nat.le_of_ble_eq_true rfl, Nat.le_of_ble_eq_true rfl⟩ ⟨Nat.le_of_ble_eq_true rfl, Nat.le_of_ble_eq_true rfl⟩ dX12_oilOfAll_18) (fun H locs X => ?_)
      refine lv_iadd C.1 C.2.1 dX12_oilOfAll_21 ?_
      refine lv_istore_n (lv' := [(1, .int (x1 + r18)), (0, .ref (gB E + 399)), (2, .int x2)]) C.1 C.2.1 dX12_oilOfAll_22 rfl hl (by decide) rfl (fun ls hl => ?_)
      refine lv_iinc (v := (x2 + 1)) (lv' := [(2, .int (x2 + 1)), (1, .int (x1 + r18)), (0, .ref (gB E + 399))]) C.1 C.2.1 dX12_oilOfAll_23 hl (k := 2) rfl rfl (by decide) rfl (fun ls hl => ?_)
      refine lv_goto (tgt := 4) C.1 C.2.1 dX12_oilOfAll_26 (by decide) ?_
      exact ih X (lv_sub hl [2, 1, 0] rfl) h

set_option maxRecDepth 20000 in
theorem w_X12_oilOfAll {r : Int32} {σ : Mem} {ls : Array Slot} {H : Heap} {locs : List Loc} (C : Cx p s m args meth c cX12_oilOfAll (some .int) 3 RX12) (G : Gf E s) (X : Hx E σ s H locs) (hl : lv_has ls 3 [(0, .ref (gB E + 399))]) (h : X12_oilOfAll σ = some r) : W p l e (RM 2) s m args below meth c H locs 0 0 (QI E below args s r σ) (F0 m 0 ls []) := by
  rw [X12_oilOfAll] at h
  refine lv_iconst (v := 0) C.1 C.2.1 dX12_oilOfAll_0 (by decide) ?_
  refine lv_istore_n (lv' := [(1, .int (0 : Int32)), (0, .ref (gB E + 399))]) C.1 C.2.1 dX12_oilOfAll_1 rfl hl (by decide) rfl (fun ls hl => ?_)
  refine lv_iconst (v := 0) C.1 C.2.1 dX12_oilOfAll_2 (by decide) ?_
  refine lv_istore_n (lv' := [(2, .int (0 : Int32)), (1, .int (0 : Int32)), (0, .ref (gB E + 399))]) C.1 C.2.1 dX12_oilOfAll_3 rfl hl (by decide) rfl (fun ls hl => ?_)
  exact w_X12_oilOfAll_4 C G FU X (lv_sub hl [2, 1, 0] rfl) h

theorem c_X12_oilOfAll (l : Launch) (E : GE) {σ : Mem} {r : Int32} (h : X12_oilOfAll σ = some r) : CtI l E yX12_oilOfAll cX12_oilOfAll 3 .int 2 [.ref (gB E + 399)] σ r σ := by
  refine Met.ofW (cc := cX12_oilOfAll) (maxL := 3) (ret := (some .int)) (by decide) rfl ?_
  intro p e s m args below meth c s₁ B hml hv
  obtain ⟨rfl, G, X⟩ := start hv
  have C := cxof B hml
  have hl := lv_entry [.ref (gB E + 399)] (n := 3) (Nat.le_of_ble_eq_true rfl)
  rw [lg_entry_eq]
  generalize (lg_sl [.ref (gB E + 399)] ++ List.replicate (3 - (lg_sl [.ref (gB E + 399)]).length) Slot.unset).toArray = ls at hl ⊢
  exact w_X12_oilOfAll C G X hl h

set_option maxRecDepth 20000 in
theorem w_X12_litOfAll_4 {r : Int32} {σ : Mem} (C : Cx p s m args meth c cX12_litOfAll (some .int) 3 RX12) (G : Gf E s) : ∀ (f : Nat) {x1 : Int32} {x2 : Int32} {ls : Array Slot} {H : Heap} {locs : List Loc}, Hx E σ s H locs → lv_has ls 3 [(0, .ref (gB E + 399)), (1, .int x1), (2, .int x2)] → X12_litOfAll_4 σ f x1 x2 = some r → W p l e (RM 2) s m args below meth c H locs 0 0 (QI E below args s r σ) (F0 m 4 ls []) := by
  intro f
  induction f with
  | zero =>
    intro x1 x2 ls H locs X hl h
    rw [X12_litOfAll_4] at h
    cases h
  | succ f ih =>
    intro x1 x2 ls H locs X hl h
    rw [X12_litOfAll_4] at h
    refine lv_iload_n C.1 C.2.1 dX12_litOfAll_4 rfl (lv_at hl 2 rfl) ?_
    refine lv_aload_n C.1 C.2.1 dX12_litOfAll_5 rfl (lv_at hl 0 rfl) ?_
    refine gfX12 C G X (k := 399) kd_399 1 (v := .ref (gB E + 400)) rfl rfl (by decide) k_1652 rfl dX12_litOfAll_6 ?_
    refine lv_iconst (v := 4) C.1 C.2.1 dX12_litOfAll_9 (by decide) ?_
    obtain ⟨r10, e10, h⟩ := bnd h
    refine ald C G X (k := 400) kd_400 (ag_s e10).1 dX12_litOfAll_10 ?_
    rw [(ag_s e10).2]
    refine lv_icmp_ge (tgt := 29) C.1 C.2.1 dX12_litOfAll_11 (by decide) (fun c11 => ?_) (fun c11 => ?_)
    · replace h := ipos c11 h
      refine lv_iload_n C.1 C.2.1 dX12_litOfAll_29 rfl (lv_at hl 1 rfl) ?_
      rw [← Option.some.inj h]
      exact rtI C X dX12_litOfAll_30
    · replace h := ineg c11 h
      refine lv_iload_n C.1 C.2.1 dX12_litOfAll_14 rfl (lv_at hl 1 rfl) ?_
      refine lv_aload_n C.1 C.2.1 dX12_litOfAll_15 rfl (lv_at hl 0 rfl) ?_
      refine lv_iload_n C.1 C.2.1 dX12_litOfAll_16 rfl (lv_at hl 2 rfl) ?_
      refine lv_iconst (v := 3) C.1 C.2.1 dX12_litOfAll_17 (by decide) ?_
      obtain ⟨r18, e18, h⟩ := bnd h
      refine afI X (runV C G X q_X12_ofWalker k_1915 kp_60 k_1913 (rcX12 G X kd_399) (c_X12_ofWalker l E e18) rfl hl.1 rfl (Nat.le_of_ble_eq_true rfl) ⟨Nat.le_of_ble_eq_true rfl, Nat.le_of_ble_eq_true rfl⟩ ⟨Nat.le_of_ble_eq_true rfl, Nat.le_of_ble_eq_true rfl⟩ dX12_litOfAll_18) (fun H locs X => ?_)
      refine lv_iadd C.1 C.2.1 dX12_litOfAll_21 ?_
      refine lv_istore_n (lv' := [(1, .int (x1 + r18)), (0, .ref (gB E + 399)), (2, .int x2)]) C.1 C.2.1 dX12_litOfAll_22 rfl hl (by decide) rfl (fun ls hl => ?_)
      refine lv_iinc (v := (x2 + 1)) (lv' := [(2, .int (x2 + 1)), (1, .int (x1 + r18)), (0, .ref (gB E + 399))]) C.1 C.2.1 dX12_litOfAll_23 hl (k := 2) rfl rfl (by decide) rfl (fun ls hl => ?_)
      refine lv_goto (tgt := 4) C.1 C.2.1 dX12_litOfAll_26 (by decide) ?_
      exact ih X (lv_sub hl [2, 1, 0] rfl) h

set_option maxRecDepth 20000 in
theorem w_X12_litOfAll {r : Int32} {σ : Mem} {ls : Array Slot} {H : Heap} {locs : List Loc} (C : Cx p s m args meth c cX12_litOfAll (some .int) 3 RX12) (G : Gf E s) (X : Hx E σ s H locs) (hl : lv_has ls 3 [(0, .ref (gB E + 399))]) (h : X12_litOfAll σ = some r) : W p l e (RM 2) s m args below meth c H locs 0 0 (QI E below args s r σ) (F0 m 0 ls []) := by
  rw [X12_litOfAll] at h
  refine lv_iconst (v := 0) C.1 C.2.1 dX12_litOfAll_0 (by decide) ?_
  refine lv_istore_n (lv' := [(1, .int (0 : Int32)), (0, .ref (gB E + 399))]) C.1 C.2.1 dX12_litOfAll_1 rfl hl (by decide) rfl (fun ls hl => ?_)
  refine lv_iconst (v := 0) C.1 C.2.1 dX12_litOfAll_2 (by decide) ?_
  refine lv_istore_n (lv' := [(2, .int (0 : Int32)), (1, .int (0 : Int32)), (0, .ref (gB E + 399))]) C.1 C.2.1 dX12_litOfAll_3 rfl hl (by decide) rfl (fun ls hl => ?_)
  exact w_X12_litOfAll_4 C G FU X (lv_sub hl [2, 1, 0] rfl) h

theorem c_X12_litOfAll (l : Launch) (E : GE) {σ : Mem} {r : Int32} (h : X12_litOfAll σ = some r) : CtI l E yX12_litOfAll cX12_litOfAll 3 .int 2 [.ref (gB E + 399)] σ r σ := by
  refine Met.ofW (cc := cX12_litOfAll) (maxL := 3) (ret := (some .int)) (by decide) rfl ?_
  intro p e s m args below meth c s₁ B hml hv
  obtain ⟨rfl, G, X⟩ := start hv
  have C := cxof B hml
  have hl := lv_entry [.ref (gB E + 399)] (n := 3) (Nat.le_of_ble_eq_true rfl)
  rw [lg_entry_eq]
  generalize (lg_sl [.ref (gB E + 399)] ++ List.replicate (3 - (lg_sl [.ref (gB E + 399)]).length) Slot.unset).toArray = ls at hl ⊢
  exact w_X12_litOfAll C G X hl h

set_option maxRecDepth 20000 in
theorem w_X12_lighters_61 {r : (Int32 × Mem)} {σ : Mem} {rc5 : Int32 → Int32 → Int32 → Int32 → Mem → Option (Int32 × Mem)} {x1 : Int32} {x2 : Int32} {x4 : Int32} {y0 : Int32} {y1 : Int32} {ls : Array Slot} {H : Heap} {locs : List Loc} (C : Cx p s m args meth c cX12_lighters (some .int) 5 RX12) (G : Gf E s) (hr5 : ∀ {x1 : Int32} {x2 : Int32} {x3 : Int32} {x4 : Int32} {σ : Mem} {ls : Array Slot} {H : Heap} {locs : List Loc}, Hx E σ s H locs → lv_has ls 5 [(0, .ref (gB E + 399)), (1, .int x1), (2, .int x2), (3, .int x3), (4, .int x4)] → rc5 x1 x2 x3 x4 σ = some r → W p l e (RM 206) s m args below meth c H locs 0 0 (QI E below args s r.1 r.2) (F0 m 5 ls [])) (X : Hx E σ s H locs) (hl : lv_has ls 5 [(0, .ref (gB E + 399)), (1, .int x1), (2, .int x2), (4, .int x4)]) (h : X12_lighters_61 rc5 x1 x2 x4 y0 y1 σ = some r) : W p l e (RM 206) s m args below meth c H locs 0 0 (QI E below args s r.1 r.2) (F0 m 61 ls [.int y1, .int y0]) := by
  rw [X12_lighters_61] at h
  refine lv_ior C.1 C.2.1 dX12_lighters_61 ?_
  refine lv_istore_n (lv' := [(3, .int (y0 ||| y1)), (0, .ref (gB E + 399)), (1, .int x1), (2, .int x2), (4, .int x4)]) C.1 C.2.1 dX12_lighters_62 rfl hl (by decide) rfl (fun ls hl => ?_)
  refine lv_iinc (v := (x4 + 1)) (lv' := [(4, .int (x4 + 1)), (3, .int (y0 ||| y1)), (0, .ref (gB E + 399)), (1, .int x1), (2, .int x2)]) C.1 C.2.1 dX12_lighters_63 hl (k := 4) rfl rfl (by decide) rfl (fun ls hl => ?_)
  refine lv_goto (tgt := 5) C.1 C.2.1 dX12_lighters_66 (by decide) ?_
  exact hr5 X (lv_sub hl [2, 3, 4, 1, 0] rfl) h

set_option maxRecDepth 20000 in
theorem w_X12_lighters_53 {r : (Int32 × Mem)} {σ : Mem} {rc5 : Int32 → Int32 → Int32 → Int32 → Mem → Option (Int32 × Mem)} {x1 : Int32} {x2 : Int32} {x4 : Int32} {y0 : Int32} {ls : Array Slot} {H : Heap} {locs : List Loc} (C : Cx p s m args meth c cX12_lighters (some .int) 5 RX12) (G : Gf E s) (hr5 : ∀ {x1 : Int32} {x2 : Int32} {x3 : Int32} {x4 : Int32} {σ : Mem} {ls : Array Slot} {H : Heap} {locs : List Loc}, Hx E σ s H locs → lv_has ls 5 [(0, .ref (gB E + 399)), (1, .int x1), (2, .int x2), (3, .int x3), (4, .int x4)] → rc5 x1 x2 x3 x4 σ = some r → W p l e (RM 206) s m args below meth c H locs 0 0 (QI E below args s r.1 r.2) (F0 m 5 ls [])) (X : Hx E σ s H locs) (hl : lv_has ls 5 [(0, .ref (gB E + 399)), (1, .int x1), (2, .int x2), (4, .int x4)]) (h : X12_lighters_53 rc5 x1 x2 x4 y0 σ = some r) : W p l e (RM 206) s m args below meth c H locs 0 0 (QI E below args s r.1 r.2) (F0 m 53 ls [.int y0]) := by
  rw [X12_lighters_53] at h
  refine lv_iconst (v := 1) C.1 C.2.1 dX12_lighters_53 (by decide) ?_
  refine lv_iload C.1 C.2.1 dX12_lighters_54 (lv_at hl 3 rfl) ?_
  refine lv_ishl C.1 C.2.1 dX12_lighters_56 ?_
  refine lv_goto (tgt := 61) C.1 C.2.1 dX12_lighters_57 (by decide) ?_
  exact w_X12_lighters_61 C G hr5 X (lv_sub hl [0, 1, 2, 3] rfl) h

set_option maxRecDepth 20000 in
theorem w_X12_lighters_60 {r : (Int32 × Mem)} {σ : Mem} {rc5 : Int32 → Int32 → Int32 → Int32 → Mem → Option (Int32 × Mem)} {x1 : Int32} {x2 : Int32} {x4 : Int32} {y0 : Int32} {ls : Array Slot} {H : Heap} {locs : List Loc} (C : Cx p s m args meth c cX12_lighters (some .int) 5 RX12) (G : Gf E s) (hr5 : ∀ {x1 : Int32} {x2 : Int32} {x3 : Int32} {x4 : Int32} {σ : Mem} {ls : Array Slot} {H : Heap} {locs : List Loc}, Hx E σ s H locs → lv_has ls 5 [(0, .ref (gB E + 399)), (1, .int x1), (2, .int x2), (3, .int x3), (4, .int x4)] → rc5 x1 x2 x3 x4 σ = some r → W p l e (RM 206) s m args below meth c H locs 0 0 (QI E below args s r.1 r.2) (F0 m 5 ls [])) (X : Hx E σ s H locs) (hl : lv_has ls 5 [(0, .ref (gB E + 399)), (1, .int x1), (2, .int x2), (4, .int x4)]) (h : X12_lighters_60 rc5 x1 x2 x4 y0 σ = some r) : W p l e (RM 206) s m args below meth c H locs 0 0 (QI E below args s r.1 r.2) (F0 m 60 ls [.int y0]) := by
  rw [X12_lighters_60] at h
  refine lv_iconst (v := 0) C.1 C.2.1 dX12_lighters_60 (by decide) ?_
  exact w_X12_lighters_61 C G hr5 X (lv_sub hl [0, 1, 2, 3] rfl) h

set_option maxRecDepth 20000 in
theorem w_X12_lighters_5 {r : (Int32 × Mem)} (C : Cx p s m args meth c cX12_lighters (some .int) 5 RX12) (G : Gf E s) : ∀ (f : Nat) {x1 : Int32} {x2 : Int32} {x3 : Int32} {x4 : Int32} {σ : Mem} {ls : Array Slot} {H : Heap} {locs : List Loc}, Hx E σ s H locs → lv_has ls 5 [(0, .ref (gB E + 399)), (1, .int x1), (2, .int x2), (3, .int x3), (4, .int x4)] → X12_lighters_5 f x1 x2 x3 x4 σ = some r → W p l e (RM 206) s m args below meth c H locs 0 0 (QI E below args s r.1 r.2) (F0 m 5 ls []) := by
  intro f
  induction f with
  | zero =>
    intro x1 x2 x3 x4 σ ls H locs X hl h
    rw [X12_lighters_5] at h
    cases h
  | succ f ih =>
    intro x1 x2 x3 x4 σ ls H locs X hl h
    rw [X12_lighters_5] at h
    refine lv_iload C.1 C.2.1 dX12_lighters_5 (lv_at hl 4 rfl) ?_
    refine lv_aload_n C.1 C.2.1 dX12_lighters_7 rfl (lv_at hl 0 rfl) ?_
    refine gfX12 C G X (k := 399) kd_399 1 (v := .ref (gB E + 400)) rfl rfl (by decide) k_1652 rfl dX12_lighters_8 ?_
    refine lv_iconst (v := 4) C.1 C.2.1 dX12_lighters_11 (by decide) ?_
    obtain ⟨r12, e12, h⟩ := bnd h
    refine ald C G X (k := 400) kd_400 (ag_s e12).1 dX12_lighters_12 ?_
    rw [(ag_s e12).2]
    refine lv_icmp_ge (tgt := 69) C.1 C.2.1 dX12_lighters_13 (by decide) (fun c13 => ?_) (fun c13 => ?_)
    · replace h := ipos c13 h
      refine lv_iload_n C.1 C.2.1 dX12_lighters_69 rfl (lv_at hl 3 rfl) ?_
      rw [← Option.some.inj h]
      exact rtI C X dX12_lighters_70
    · replace h := ineg c13 h
      refine lv_iload_n C.1 C.2.1 dX12_lighters_16 rfl (lv_at hl 3 rfl) ?_
      refine lv_aload_n C.1 C.2.1 dX12_lighters_17 rfl (lv_at hl 0 rfl) ?_
      refine lv_iload C.1 C.2.1 dX12_lighters_18 (lv_at hl 4 rfl) ?_
      refine lv_iload_n C.1 C.2.1 dX12_lighters_20 rfl (lv_at hl 1 rfl) ?_
      obtain ⟨r21, σ21, e21, h⟩ := bnd2 h
      refine afI (r0 := r21) (σ' := σ21) X (runV C G X q_X12_doesLight k_1899 kp_56 k_1897 (rcX12 G X kd_399) (c_X12_doesLight l E e21) rfl hl.1 rfl (Nat.le_of_ble_eq_true rfl) ⟨Nat.le_of_ble_eq_true rfl, Nat.le_of_ble_eq_true rfl⟩ ⟨Nat.le_of_ble_eq_true rfl, Nat.le_of_ble_eq_true rfl⟩ dX12_lighters_21) (fun H locs X => ?_)
      refine lv_if_ne (tgt := 53) C.1 C.2.1 dX12_lighters_24 (by decide) (fun c24 => ?_) (fun c24 => ?_)
      · replace h := ineg c24 h
        exact w_X12_lighters_53 C G ih X (lv_sub hl [0, 1, 2, 4] rfl) h
      · replace h := ipos c24 h
        refine lv_iload_n C.1 C.2.1 dX12_lighters_27 rfl (lv_at hl 2 rfl) ?_
        refine lv_if_eq (tgt := 60) C.1 C.2.1 dX12_lighters_28 (by decide) (fun c28 => ?_) (fun c28 => ?_)
        · replace h := ipos c28 h
          exact w_X12_lighters_60 C G ih X (lv_sub hl [0, 1, 2, 4] rfl) h
        · replace h := ineg c28 h
          refine lv_aload_n C.1 C.2.1 dX12_lighters_31 rfl (lv_at hl 0 rfl) ?_
          refine lv_iload_n C.1 C.2.1 dX12_lighters_32 rfl (lv_at hl 1 rfl) ?_
          refine lv_iconst (v := 2) C.1 C.2.1 dX12_lighters_33 (by decide) ?_
          obtain ⟨r34, e34, h⟩ := bnd h
          refine afI X (runV C G X q_X12_of k_1855 kp_49 k_1853 (rcX12 G X kd_399) (c_X12_of l E e34) rfl hl.1 rfl (Nat.le_of_ble_eq_true rfl) ⟨Nat.le_of_ble_eq_true rfl, Nat.le_of_ble_eq_true rfl⟩ ⟨Nat.le_of_ble_eq_true rfl, Nat.le_of_ble_eq_true rfl⟩ dX12_lighters_34) (fun H locs X => ?_)
          refine lv_iconst (v := -1) C.1 C.2.1 dX12_lighters_37 (by decide) ?_
          refine lv_icmp_eq (tgt := 60) C.1 C.2.1 dX12_lighters_38 (by decide) (fun c38 => ?_) (fun c38 => ?_)
          · replace h := ipos c38 h
            exact w_X12_lighters_60 C G ih X (lv_sub hl [0, 1, 2, 4] rfl) h
          · replace h := ineg c38 h
            refine lv_aload_n C.1 C.2.1 dX12_lighters_41 rfl (lv_at hl 0 rfl) ?_
            refine lv_iload C.1 C.2.1 dX12_lighters_42 (lv_at hl 4 rfl) ?_
            refine lv_iload_n C.1 C.2.1 dX12_lighters_44 rfl (lv_at hl 1 rfl) ?_
            refine lv_bipush (v := 9) C.1 C.2.1 dX12_lighters_45 (by decide) ?_
            obtain ⟨r47, σ47, e47, h⟩ := bnd2 h
            refine afI (r0 := r47) (σ' := σ47) X (runV C G X q_X12_wouldLight k_1911 kp_59 k_1909 (rcX12 G X kd_399) (c_X12_wouldLight l E e47) rfl hl.1 rfl (Nat.le_of_ble_eq_true rfl) ⟨Nat.le_of_ble_eq_true rfl, Nat.le_of_ble_eq_true rfl⟩ ⟨Nat.le_of_ble_eq_true rfl, Nat.le_of_ble_eq_true rfl⟩ dX12_lighters_47) (fun H locs X => ?_)
            refine lv_if_eq (tgt := 60) C.1 C.2.1 dX12_lighters_50 (by decide) (fun c50 => ?_) (fun c50 => ?_)
            · replace h := ipos c50 h
              exact w_X12_lighters_60 C G ih X (lv_sub hl [0, 1, 2, 4] rfl) h
            · replace h := ineg c50 h
              exact w_X12_lighters_53 C G ih X (lv_sub hl [0, 1, 2, 4] rfl) h

set_option maxRecDepth 20000 in
theorem w_X12_lighters {r : (Int32 × Mem)} {σ : Mem} {x1 : Int32} {x2 : Int32} {ls : Array Slot} {H : Heap} {locs : List Loc} (C : Cx p s m args meth c cX12_lighters (some .int) 5 RX12) (G : Gf E s) (X : Hx E σ s H locs) (hl : lv_has ls 5 [(0, .ref (gB E + 399)), (1, .int x1), (2, .int x2)]) (h : X12_lighters x1 x2 σ = some r) : W p l e (RM 206) s m args below meth c H locs 0 0 (QI E below args s r.1 r.2) (F0 m 0 ls []) := by
  rw [X12_lighters] at h
  refine lv_iconst (v := 0) C.1 C.2.1 dX12_lighters_0 (by decide) ?_
  refine lv_istore_n (lv' := [(3, .int (0 : Int32)), (0, .ref (gB E + 399)), (1, .int x1), (2, .int x2)]) C.1 C.2.1 dX12_lighters_1 rfl hl (by decide) rfl (fun ls hl => ?_)
  refine lv_iconst (v := 0) C.1 C.2.1 dX12_lighters_2 (by decide) ?_
  refine lv_istore (lv' := [(4, .int (0 : Int32)), (3, .int (0 : Int32)), (0, .ref (gB E + 399)), (1, .int x1), (2, .int x2)]) C.1 C.2.1 dX12_lighters_3 hl (by decide) rfl (fun ls hl => ?_)
  exact w_X12_lighters_5 C G FU X (lv_sub hl [2, 3, 4, 1, 0] rfl) h

theorem c_X12_lighters (l : Launch) (E : GE) {σ : Mem} {x1 : Int32} {x2 : Int32} {r : (Int32 × Mem)} (h : X12_lighters x1 x2 σ = some r) : CtI l E yX12_lighters cX12_lighters 5 .int 206 [.ref (gB E + 399), .int x1, .int x2] σ r.1 r.2 := by
  refine Met.ofW (cc := cX12_lighters) (maxL := 5) (ret := (some .int)) (by decide) rfl ?_
  intro p e s m args below meth c s₁ B hml hv
  obtain ⟨rfl, G, X⟩ := start hv
  have C := cxof B hml
  have hl := lv_entry [.ref (gB E + 399), .int x1, .int x2] (n := 5) (Nat.le_of_ble_eq_true rfl)
  rw [lg_entry_eq]
  generalize (lg_sl [.ref (gB E + 399), .int x1, .int x2] ++ List.replicate (5 - (lg_sl [.ref (gB E + 399), .int x1, .int x2]).length) Slot.unset).toArray = ls at hl ⊢
  exact w_X12_lighters C G X hl h

set_option maxRecDepth 20000 in
theorem w_X12_whenOf_31 {r : (Int32 × Mem)} {σ : Mem} {rc8 : Int32 → Int32 → Int32 → Mem → Option (Int32 × Mem)} {x1 : Int32} {x2 : Int32} {x3 : Int32} {ls : Array Slot} {H : Heap} {locs : List Loc} (C : Cx p s m args meth c cX12_whenOf (some .int) 5 RX12) (G : Gf E s) (hr8 : ∀ {x1 : Int32} {x2 : Int32} {x3 : Int32} {σ : Mem} {ls : Array Slot} {H : Heap} {locs : List Loc}, Hx E σ s H locs → lv_has ls 5 [(0, .ref (gB E + 399)), (1, .int x1), (2, .int x2), (3, .int x3)] → rc8 x1 x2 x3 σ = some r → W p l e (RM 207) s m args below meth c H locs 0 0 (QI E below args s r.1 r.2) (F0 m 8 ls [])) (X : Hx E σ s H locs) (hl : lv_has ls 5 [(0, .ref (gB E + 399)), (1, .int x1), (2, .int x2), (3, .int x3)]) (h : X12_whenOf_31 rc8 x1 x2 x3 σ = some r) : W p l e (RM 207) s m args below meth c H locs 0 0 (QI E below args s r.1 r.2) (F0 m 31 ls []) := by
  rw [X12_whenOf_31] at h
  refine lv_aload_n C.1 C.2.1 dX12_whenOf_31 rfl (lv_at hl 0 rfl) ?_
  refine lv_iconst (v := 0) C.1 C.2.1 dX12_whenOf_32 (by decide) ?_
  obtain ⟨r33, σ33, e33, h⟩ := bnd2 h
  refine afI (r0 := r33) (σ' := σ33) X (runV C G X q_X12_passes k_1927 kp_63 k_1925 (rcX12 G X kd_399) (c_X12_passes l E e33) rfl hl.1 rfl (Nat.le_of_ble_eq_true rfl) ⟨Nat.le_of_ble_eq_true rfl, Nat.le_of_ble_eq_true rfl⟩ ⟨Nat.le_of_ble_eq_true rfl, Nat.le_of_ble_eq_true rfl⟩ dX12_whenOf_33) (fun H locs X => ?_)
  refine lv_istore (lv' := [(4, .int r33), (0, .ref (gB E + 399)), (1, .int x1), (2, .int x2), (3, .int x3)]) C.1 C.2.1 dX12_whenOf_36 hl (by decide) rfl (fun ls hl => ?_)
  refine lv_iinc (v := (x3 + 1)) (lv' := [(3, .int (x3 + 1)), (4, .int r33), (0, .ref (gB E + 399)), (1, .int x1), (2, .int x2)]) C.1 C.2.1 dX12_whenOf_38 hl (k := 4) rfl rfl (by decide) rfl (fun ls hl => ?_)
  refine lv_goto (tgt := 8) C.1 C.2.1 dX12_whenOf_41 (by decide) ?_
  exact hr8 X (lv_sub hl [2, 3, 4, 0] rfl) h

set_option maxRecDepth 20000 in
theorem w_X12_whenOf_44 {r : (Int32 × Mem)} {σ : Mem} {x2 : Int32} {ls : Array Slot} {H : Heap} {locs : List Loc} (C : Cx p s m args meth c cX12_whenOf (some .int) 5 RX12) (G : Gf E s) (X : Hx E σ s H locs) (hl : lv_has ls 5 [(0, .ref (gB E + 399)), (2, .int x2)]) (h : X12_whenOf_44 x2 σ = some r) : W p l e (RM 207) s m args below meth c H locs 0 0 (QI E below args s r.1 r.2) (F0 m 44 ls []) := by
  rw [X12_whenOf_44] at h
  refine lv_aload_n C.1 C.2.1 dX12_whenOf_44 rfl (lv_at hl 0 rfl) ?_
  obtain ⟨σ45, e45, h⟩ := bnd h
  refine afV X (runV C G X q_X12_comesBack k_1875 kp_53 k_1873 (rcX12 G X kd_399) (c_X12_comesBack l E e45) rfl hl.1 rfl (Nat.le_of_ble_eq_true rfl) ⟨Nat.le_of_ble_eq_true rfl, Nat.le_of_ble_eq_true rfl⟩ ⟨Nat.le_of_ble_eq_true rfl, Nat.le_of_ble_eq_true rfl⟩ dX12_whenOf_45) (fun H locs X => ?_)
  refine lv_iload_n C.1 C.2.1 dX12_whenOf_48 rfl (lv_at hl 1 rfl) ?_
  rw [← Option.some.inj h]
  exact rtI C X dX12_whenOf_49

set_option maxRecDepth 20000 in
theorem w_X12_whenOf_8 {r : (Int32 × Mem)} (C : Cx p s m args meth c cX12_whenOf (some .int) 5 RX12) (G : Gf E s) : ∀ (f : Nat) {x1 : Int32} {x2 : Int32} {x3 : Int32} {σ : Mem} {ls : Array Slot} {H : Heap} {locs : List Loc}, Hx E σ s H locs → lv_has ls 5 [(0, .ref (gB E + 399)), (1, .int x1), (2, .int x2), (3, .int x3)] → X12_whenOf_8 f x1 x2 x3 σ = some r → W p l e (RM 207) s m args below meth c H locs 0 0 (QI E below args s r.1 r.2) (F0 m 8 ls []) := by
  intro f
  induction f with
  | zero =>
    intro x1 x2 x3 σ ls H locs X hl h
    rw [X12_whenOf_8] at h
    cases h
  | succ f ih =>
    intro x1 x2 x3 σ ls H locs X hl h
    rw [X12_whenOf_8] at h
    refine lv_iload_n C.1 C.2.1 dX12_whenOf_8 rfl (lv_at hl 3 rfl) ?_
    refine lv_bipush (v := 60) C.1 C.2.1 dX12_whenOf_9 (by decide) ?_
    refine lv_icmp_gt (tgt := 44) C.1 C.2.1 dX12_whenOf_11 (by decide) (fun c11 => ?_) (fun c11 => ?_)
    · replace h := ipos c11 h
      exact w_X12_whenOf_44 C G X (lv_sub hl [0, 2] rfl) h
    · replace h := ineg c11 h
      refine lv_iload_n C.1 C.2.1 dX12_whenOf_14 rfl (lv_at hl 2 rfl) ?_
      refine lv_iconst (v := -1) C.1 C.2.1 dX12_whenOf_15 (by decide) ?_
      refine lv_icmp_ne (tgt := 44) C.1 C.2.1 dX12_whenOf_16 (by decide) (fun c16 => ?_) (fun c16 => ?_)
      · replace h := ineg c16 h
        exact w_X12_whenOf_44 C G X (lv_sub hl [0, 2] rfl) h
      · replace h := ipos c16 h
        refine lv_aload_n C.1 C.2.1 dX12_whenOf_19 rfl (lv_at hl 0 rfl) ?_
        refine lv_iload_n C.1 C.2.1 dX12_whenOf_20 rfl (lv_at hl 1 rfl) ?_
        refine lv_iconst (v := 1) C.1 C.2.1 dX12_whenOf_21 (by decide) ?_
        obtain ⟨r22, e22, h⟩ := bnd h
        refine afI X (runV C G X q_X12_of k_1855 kp_49 k_1853 (rcX12 G X kd_399) (c_X12_of l E e22) rfl hl.1 rfl (Nat.le_of_ble_eq_true rfl) ⟨Nat.le_of_ble_eq_true rfl, Nat.le_of_ble_eq_true rfl⟩ ⟨Nat.le_of_ble_eq_true rfl, Nat.le_of_ble_eq_true rfl⟩ dX12_whenOf_22) (fun H locs X => ?_)
        refine lv_iconst (v := 1) C.1 C.2.1 dX12_whenOf_25 (by decide) ?_
        refine lv_icmp_ne (tgt := 31) C.1 C.2.1 dX12_whenOf_26 (by decide) (fun c26 => ?_) (fun c26 => ?_)
        · replace h := ineg c26 h
          exact w_X12_whenOf_31 C G ih X (lv_sub hl [0, 1, 2, 3] rfl) h
        · replace h := ipos c26 h
          refine lv_iload_n C.1 C.2.1 dX12_whenOf_29 rfl (lv_at hl 3 rfl) ?_
          refine lv_istore_n (lv' := [(2, .int x3), (0, .ref (gB E + 399)), (1, .int x1), (3, .int x3)]) C.1 C.2.1 dX12_whenOf_30 rfl hl (by decide) rfl (fun ls hl => ?_)
          exact w_X12_whenOf_31 C G ih X (lv_sub hl [1, 2, 0, 3] rfl) h

set_option maxRecDepth 20000 in
theorem w_X12_whenOf {r : (Int32 × Mem)} {σ : Mem} {x1 : Int32} {ls : Array Slot} {H : Heap} {locs : List Loc} (C : Cx p s m args meth c cX12_whenOf (some .int) 5 RX12) (G : Gf E s) (X : Hx E σ s H locs) (hl : lv_has ls 5 [(0, .ref (gB E + 399)), (1, .int x1)]) (h : X12_whenOf x1 σ = some r) : W p l e (RM 207) s m args below meth c H locs 0 0 (QI E below args s r.1 r.2) (F0 m 0 ls []) := by
  rw [X12_whenOf] at h
  refine lv_aload_n C.1 C.2.1 dX12_whenOf_0 rfl (lv_at hl 0 rfl) ?_
  obtain ⟨σ1, e1, h⟩ := bnd h
  refine afV X (runV C G X q_X12_putsAside k_1742 kp_26 k_1740 (rcX12 G X kd_399) (c_X12_putsAside l E e1) rfl hl.1 rfl (Nat.le_of_ble_eq_true rfl) ⟨Nat.le_of_ble_eq_true rfl, Nat.le_of_ble_eq_true rfl⟩ ⟨Nat.le_of_ble_eq_true rfl, Nat.le_of_ble_eq_true rfl⟩ dX12_whenOf_1) (fun H locs X => ?_)
  refine lv_iconst (v := -1) C.1 C.2.1 dX12_whenOf_4 (by decide) ?_
  refine lv_istore_n (lv' := [(2, .int (-1 : Int32)), (0, .ref (gB E + 399)), (1, .int x1)]) C.1 C.2.1 dX12_whenOf_5 rfl hl (by decide) rfl (fun ls hl => ?_)
  refine lv_iconst (v := 0) C.1 C.2.1 dX12_whenOf_6 (by decide) ?_
  refine lv_istore_n (lv' := [(3, .int (0 : Int32)), (2, .int (-1 : Int32)), (0, .ref (gB E + 399)), (1, .int x1)]) C.1 C.2.1 dX12_whenOf_7 rfl hl (by decide) rfl (fun ls hl => ?_)
  exact w_X12_whenOf_8 C G FU X (lv_sub hl [2, 3, 1, 0] rfl) h

theorem c_X12_whenOf (l : Launch) (E : GE) {σ : Mem} {x1 : Int32} {r : (Int32 × Mem)} (h : X12_whenOf x1 σ = some r) : CtI l E yX12_whenOf cX12_whenOf 5 .int 207 [.ref (gB E + 399), .int x1] σ r.1 r.2 := by
  refine Met.ofW (cc := cX12_whenOf) (maxL := 5) (ret := (some .int)) (by decide) rfl ?_
  intro p e s m args below meth c s₁ B hml hv
  obtain ⟨rfl, G, X⟩ := start hv
  have C := cxof B hml
  have hl := lv_entry [.ref (gB E + 399), .int x1] (n := 5) (Nat.le_of_ble_eq_true rfl)
  rw [lg_entry_eq]
  generalize (lg_sl [.ref (gB E + 399), .int x1] ++ List.replicate (5 - (lg_sl [.ref (gB E + 399), .int x1]).length) Slot.unset).toArray = ls at hl ⊢
  exact w_X12_whenOf C G X hl h

set_option maxRecDepth 20000 in
theorem w_X12_pane_28 {r : (Int32 × Mem)} {σ : Mem} {x1 : Int32} {x2 : Int32} {y1 : Int32} {ls : Array Slot} {H : Heap} {locs : List Loc} (C : Cx p s m args meth c cX12_pane (some .int) 3 RX12) (G : Gf E s) (X : Hx E σ s H locs) (hl : lv_has ls 3 [(0, .ref (gB E + 399)), (1, .int x1), (2, .int x2)]) (h : X12_pane_28 x1 x2 y1 σ = some r) : W p l e (RM 208) s m args below meth c H locs 0 0 (QI E below args s r.1 r.2) (F0 m 28 ls [.int y1, .ref (gB E + 399)]) := by
  rw [X12_pane_28] at h
  obtain ⟨σ28, e28, h⟩ := bnd h
  refine pfX12 C G X (k := 399) kd_399 0 (x := y1) (ty := .int) rfl rfl (Nat.le_of_ble_eq_true rfl) (by decide) k_1651 rfl rfl (by decide +kernel) rfl rfl dX12_pane_28 (fun H locs X => ?_)
  replace X := pu_x e28 X
  refine lv_aload_n C.1 C.2.1 dX12_pane_31 rfl (lv_at hl 0 rfl) ?_
  refine gfX12 C G X (k := 399) kd_399 0 (v := .int (σ28 399 0)) rfl rfl (by decide) k_1651 rfl dX12_pane_32 ?_
  refine lv_if_le (tgt := 40) C.1 C.2.1 dX12_pane_35 (by decide) (fun c35 => ?_) (fun c35 => ?_)
  · replace h := ipos c35 h
    refine lv_iload_n C.1 C.2.1 dX12_pane_40 rfl (lv_at hl 2 rfl) ?_
    refine lv_iconst (v := 4) C.1 C.2.1 dX12_pane_41 (by decide) ?_
    refine lv_icmp_ge (tgt := 52) C.1 C.2.1 dX12_pane_42 (by decide) (fun c42 => ?_) (fun c42 => ?_)
    · replace h := ipos c42 h
      refine lv_iload_n C.1 C.2.1 dX12_pane_52 rfl (lv_at hl 2 rfl) ?_
      refine lv_iconst (v := 4) C.1 C.2.1 dX12_pane_53 (by decide) ?_
      refine lv_icmp_ne (tgt := 64) C.1 C.2.1 dX12_pane_54 (by decide) (fun c54 => ?_) (fun c54 => ?_)
      · replace h := ineg c54 h
        refine lv_iload_n C.1 C.2.1 dX12_pane_64 rfl (lv_at hl 2 rfl) ?_
        refine lv_iconst (v := 5) C.1 C.2.1 dX12_pane_65 (by decide) ?_
        refine lv_icmp_ne (tgt := 75) C.1 C.2.1 dX12_pane_66 (by decide) (fun c66 => ?_) (fun c66 => ?_)
        · replace h := ineg c66 h
          refine lv_iload_n C.1 C.2.1 dX12_pane_75 rfl (lv_at hl 2 rfl) ?_
          refine lv_bipush (v := 7) C.1 C.2.1 dX12_pane_76 (by decide) ?_
          refine lv_icmp_ne (tgt := 102) C.1 C.2.1 dX12_pane_78 (by decide) (fun c78 => ?_) (fun c78 => ?_)
          · replace h := ineg c78 h
            refine lv_aload_n C.1 C.2.1 dX12_pane_102 rfl (lv_at hl 0 rfl) ?_
            refine lv_iload_n C.1 C.2.1 dX12_pane_103 rfl (lv_at hl 1 rfl) ?_
            refine lv_iconst (v := 1) C.1 C.2.1 dX12_pane_104 (by decide) ?_
            obtain ⟨r105, e105, h⟩ := bnd h
            refine afI X (runV C G X q_X12_of k_1855 kp_49 k_1853 (rcX12 G X kd_399) (c_X12_of l E e105) rfl hl.1 rfl (Nat.le_of_ble_eq_true rfl) ⟨Nat.le_of_ble_eq_true rfl, Nat.le_of_ble_eq_true rfl⟩ ⟨Nat.le_of_ble_eq_true rfl, Nat.le_of_ble_eq_true rfl⟩ dX12_pane_105) (fun H locs X => ?_)
            refine lv_iconst (v := 1) C.1 C.2.1 dX12_pane_108 (by decide) ?_
            refine lv_icmp_eq (tgt := 122) C.1 C.2.1 dX12_pane_109 (by decide) (fun c109 => ?_) (fun c109 => ?_)
            · replace h := ipos c109 h
              refine lv_iconst (v := 0) C.1 C.2.1 dX12_pane_122 (by decide) ?_
              refine lv_goto (tgt := 132) C.1 C.2.1 dX12_pane_123 (by decide) ?_
              rw [← Option.some.inj h]
              exact rtI C X dX12_pane_132
            · replace h := ineg c109 h
              refine lv_aload_n C.1 C.2.1 dX12_pane_112 rfl (lv_at hl 0 rfl) ?_
              refine lv_iload_n C.1 C.2.1 dX12_pane_113 rfl (lv_at hl 1 rfl) ?_
              refine lv_iconst (v := 2) C.1 C.2.1 dX12_pane_114 (by decide) ?_
              obtain ⟨r115, e115, h⟩ := bnd h
              refine afI X (runV C G X q_X12_of k_1855 kp_49 k_1853 (rcX12 G X kd_399) (c_X12_of l E e115) rfl hl.1 rfl (Nat.le_of_ble_eq_true rfl) ⟨Nat.le_of_ble_eq_true rfl, Nat.le_of_ble_eq_true rfl⟩ ⟨Nat.le_of_ble_eq_true rfl, Nat.le_of_ble_eq_true rfl⟩ dX12_pane_115) (fun H locs X => ?_)
              refine lv_iconst (v := -1) C.1 C.2.1 dX12_pane_118 (by decide) ?_
              refine lv_icmp_ne (tgt := 126) C.1 C.2.1 dX12_pane_119 (by decide) (fun c119 => ?_) (fun c119 => ?_)
              · replace h := ineg c119 h
                refine lv_aload_n C.1 C.2.1 dX12_pane_126 rfl (lv_at hl 0 rfl) ?_
                refine lv_iload_n C.1 C.2.1 dX12_pane_127 rfl (lv_at hl 1 rfl) ?_
                refine lv_iconst (v := 1) C.1 C.2.1 dX12_pane_128 (by decide) ?_
                obtain ⟨r129, σ129, e129, h⟩ := bnd2 h
                refine afI (r0 := r129) (σ' := σ129) X (runV C G X q_X12_lighters k_1895 kp_55 k_1893 (rcX12 G X kd_399) (c_X12_lighters l E e129) rfl hl.1 rfl (Nat.le_of_ble_eq_true rfl) ⟨Nat.le_of_ble_eq_true rfl, Nat.le_of_ble_eq_true rfl⟩ ⟨Nat.le_of_ble_eq_true rfl, Nat.le_of_ble_eq_true rfl⟩ dX12_pane_129) (fun H locs X => ?_)
                rw [← Option.some.inj h]
                exact rtI C X dX12_pane_132
              · replace h := ipos c119 h
                refine lv_iconst (v := 0) C.1 C.2.1 dX12_pane_122 (by decide) ?_
                refine lv_goto (tgt := 132) C.1 C.2.1 dX12_pane_123 (by decide) ?_
                rw [← Option.some.inj h]
                exact rtI C X dX12_pane_132
          · replace h := ipos c78 h
            refine lv_aload_n C.1 C.2.1 dX12_pane_81 rfl (lv_at hl 0 rfl) ?_
            refine lv_iload_n C.1 C.2.1 dX12_pane_82 rfl (lv_at hl 1 rfl) ?_
            refine lv_iconst (v := 1) C.1 C.2.1 dX12_pane_83 (by decide) ?_
            obtain ⟨r84, e84, h⟩ := bnd h
            refine afI X (runV C G X q_X12_of k_1855 kp_49 k_1853 (rcX12 G X kd_399) (c_X12_of l E e84) rfl hl.1 rfl (Nat.le_of_ble_eq_true rfl) ⟨Nat.le_of_ble_eq_true rfl, Nat.le_of_ble_eq_true rfl⟩ ⟨Nat.le_of_ble_eq_true rfl, Nat.le_of_ble_eq_true rfl⟩ dX12_pane_84) (fun H locs X => ?_)
            refine lv_iconst (v := 1) C.1 C.2.1 dX12_pane_87 (by decide) ?_
            refine lv_icmp_ne (tgt := 100) C.1 C.2.1 dX12_pane_88 (by decide) (fun c88 => ?_) (fun c88 => ?_)
            · replace h := ineg c88 h
              refine lv_iconst (v := 0) C.1 C.2.1 dX12_pane_100 (by decide) ?_
              rw [← Option.some.inj h]
              exact rtI C X dX12_pane_101
            · replace h := ipos c88 h
              refine lv_aload_n C.1 C.2.1 dX12_pane_91 rfl (lv_at hl 0 rfl) ?_
              refine lv_iload_n C.1 C.2.1 dX12_pane_92 rfl (lv_at hl 1 rfl) ?_
              refine lv_iconst (v := 0) C.1 C.2.1 dX12_pane_93 (by decide) ?_
              obtain ⟨r94, e94, h⟩ := bnd h
              refine afI X (runV C G X q_X12_of k_1855 kp_49 k_1853 (rcX12 G X kd_399) (c_X12_of l E e94) rfl hl.1 rfl (Nat.le_of_ble_eq_true rfl) ⟨Nat.le_of_ble_eq_true rfl, Nat.le_of_ble_eq_true rfl⟩ ⟨Nat.le_of_ble_eq_true rfl, Nat.le_of_ble_eq_true rfl⟩ dX12_pane_94) (fun H locs X => ?_)
              refine lv_goto (tgt := 101) C.1 C.2.1 dX12_pane_97 (by decide) ?_
              rw [← Option.some.inj h]
              exact rtI C X dX12_pane_101
        · replace h := ipos c66 h
          refine lv_aload_n C.1 C.2.1 dX12_pane_69 rfl (lv_at hl 0 rfl) ?_
          refine lv_iload_n C.1 C.2.1 dX12_pane_70 rfl (lv_at hl 1 rfl) ?_
          obtain ⟨r71, σ71, e71, h⟩ := bnd2 h
          refine afI (r0 := r71) (σ' := σ71) X (runV C G X q_X12_whenOf k_1923 kp_62 k_1921 (rcX12 G X kd_399) (c_X12_whenOf l E e71) rfl hl.1 rfl (Nat.le_of_ble_eq_true rfl) ⟨Nat.le_of_ble_eq_true rfl, Nat.le_of_ble_eq_true rfl⟩ ⟨Nat.le_of_ble_eq_true rfl, Nat.le_of_ble_eq_true rfl⟩ dX12_pane_71) (fun H locs X => ?_)
          rw [← Option.some.inj h]
          exact rtI C X dX12_pane_74
      · replace h := ipos c54 h
        refine lv_aload_n C.1 C.2.1 dX12_pane_57 rfl (lv_at hl 0 rfl) ?_
        refine lv_iload_n C.1 C.2.1 dX12_pane_58 rfl (lv_at hl 1 rfl) ?_
        refine lv_iconst (v := 0) C.1 C.2.1 dX12_pane_59 (by decide) ?_
        obtain ⟨r60, σ60, e60, h⟩ := bnd2 h
        refine afI (r0 := r60) (σ' := σ60) X (runV C G X q_X12_lighters k_1895 kp_55 k_1893 (rcX12 G X kd_399) (c_X12_lighters l E e60) rfl hl.1 rfl (Nat.le_of_ble_eq_true rfl) ⟨Nat.le_of_ble_eq_true rfl, Nat.le_of_ble_eq_true rfl⟩ ⟨Nat.le_of_ble_eq_true rfl, Nat.le_of_ble_eq_true rfl⟩ dX12_pane_60) (fun H locs X => ?_)
        rw [← Option.some.inj h]
        exact rtI C X dX12_pane_63
    · replace h := ineg c42 h
      refine lv_aload_n C.1 C.2.1 dX12_pane_45 rfl (lv_at hl 0 rfl) ?_
      refine lv_iload_n C.1 C.2.1 dX12_pane_46 rfl (lv_at hl 1 rfl) ?_
      refine lv_iload_n C.1 C.2.1 dX12_pane_47 rfl (lv_at hl 2 rfl) ?_
      obtain ⟨r48, e48, h⟩ := bnd h
      refine afI X (runV C G X q_X12_of k_1855 kp_49 k_1853 (rcX12 G X kd_399) (c_X12_of l E e48) rfl hl.1 rfl (Nat.le_of_ble_eq_true rfl) ⟨Nat.le_of_ble_eq_true rfl, Nat.le_of_ble_eq_true rfl⟩ ⟨Nat.le_of_ble_eq_true rfl, Nat.le_of_ble_eq_true rfl⟩ dX12_pane_48) (fun H locs X => ?_)
      rw [← Option.some.inj h]
      exact rtI C X dX12_pane_51
  · replace h := ineg c35 h
    refine lv_iconst (v := 0) C.1 C.2.1 dX12_pane_38 (by decide) ?_
    rw [← Option.some.inj h]
    exact rtI C X dX12_pane_39

set_option maxRecDepth 20000 in
theorem w_X12_pane {r : (Int32 × Mem)} {σ : Mem} {x1 : Int32} {x2 : Int32} {ls : Array Slot} {H : Heap} {locs : List Loc} (C : Cx p s m args meth c cX12_pane (some .int) 3 RX12) (G : Gf E s) (X : Hx E σ s H locs) (hl : lv_has ls 3 [(0, .ref (gB E + 399)), (1, .int x1), (2, .int x2)]) (h : X12_pane x1 x2 σ = some r) : W p l e (RM 208) s m args below meth c H locs 0 0 (QI E below args s r.1 r.2) (F0 m 0 ls []) := by
  rw [X12_pane] at h
  refine lv_aload_n C.1 C.2.1 dX12_pane_0 rfl (lv_at hl 0 rfl) ?_
  refine lv_aload_n C.1 C.2.1 dX12_pane_1 rfl (lv_at hl 0 rfl) ?_
  refine lv_iload_n C.1 C.2.1 dX12_pane_2 rfl (lv_at hl 1 rfl) ?_
  obtain ⟨r3, e3, h⟩ := bnd h
  refine afI X (runV C G X q_X12_isPane k_1891 kp_54 k_1889 (rcX12 G X kd_399) (c_X12_isPane l E e3) rfl hl.1 rfl (Nat.le_of_ble_eq_true rfl) ⟨Nat.le_of_ble_eq_true rfl, Nat.le_of_ble_eq_true rfl⟩ ⟨Nat.le_of_ble_eq_true rfl, Nat.le_of_ble_eq_true rfl⟩ dX12_pane_3) (fun H locs X => ?_)
  refine lv_if_ne (tgt := 13) C.1 C.2.1 dX12_pane_6 (by decide) (fun c6 => ?_) (fun c6 => ?_)
  · replace h := ineg c6 h
    refine lv_iload_n C.1 C.2.1 dX12_pane_13 rfl (lv_at hl 2 rfl) ?_
    refine lv_iconst (v := 0) C.1 C.2.1 dX12_pane_14 (by decide) ?_
    refine lv_bipush (v := 7) C.1 C.2.1 dX12_pane_15 (by decide) ?_
    obtain ⟨r17, e17, h⟩ := bnd h
    refine afI X (runS C G X q_X12_isIn k_1734 k_1733 (c_X12_isIn l E e17) rfl hl.1 rfl (Nat.le_of_ble_eq_true rfl) ⟨Nat.le_of_ble_eq_true rfl, Nat.le_of_ble_eq_true rfl⟩ ⟨Nat.le_of_ble_eq_true rfl, Nat.le_of_ble_eq_true rfl⟩ dX12_pane_17) (fun H locs X => ?_)
    refine lv_if_ne (tgt := 27) C.1 C.2.1 dX12_pane_20 (by decide) (fun c20 => ?_) (fun c20 => ?_)
    · replace h := ineg c20 h
      refine lv_iconst (v := 0) C.1 C.2.1 dX12_pane_27 (by decide) ?_
      exact w_X12_pane_28 C G X (lv_sub hl [0, 1, 2] rfl) h
    · replace h := ipos c20 h
      refine lv_iconst (v := 2) C.1 C.2.1 dX12_pane_23 (by decide) ?_
      refine lv_goto (tgt := 28) C.1 C.2.1 dX12_pane_24 (by decide) ?_
      exact w_X12_pane_28 C G X (lv_sub hl [0, 1, 2] rfl) h
  · replace h := ipos c6 h
    refine lv_iconst (v := 1) C.1 C.2.1 dX12_pane_9 (by decide) ?_
    refine lv_goto (tgt := 28) C.1 C.2.1 dX12_pane_10 (by decide) ?_
    exact w_X12_pane_28 C G X (lv_sub hl [0, 1, 2] rfl) h

theorem c_X12_pane (l : Launch) (E : GE) {σ : Mem} {x1 : Int32} {x2 : Int32} {r : (Int32 × Mem)} (h : X12_pane x1 x2 σ = some r) : CtI l E yX12_pane cX12_pane 3 .int 208 [.ref (gB E + 399), .int x1, .int x2] σ r.1 r.2 := by
  refine Met.ofW (cc := cX12_pane) (maxL := 3) (ret := (some .int)) (by decide) rfl ?_
  intro p e s m args below meth c s₁ B hml hv
  obtain ⟨rfl, G, X⟩ := start hv
  have C := cxof B hml
  have hl := lv_entry [.ref (gB E + 399), .int x1, .int x2] (n := 3) (Nat.le_of_ble_eq_true rfl)
  rw [lg_entry_eq]
  generalize (lg_sl [.ref (gB E + 399), .int x1, .int x2] ++ List.replicate (3 - (lg_sl [.ref (gB E + 399), .int x1, .int x2]).length) Slot.unset).toArray = ls at hl ⊢
  exact w_X12_pane C G X hl h

set_option maxRecDepth 20000 in
theorem w_X12_tapersOf_74 {r : (Int32 × Mem)} {σ : Mem} {rc31 : Int32 → Int32 → Int32 → Int32 → Mem → Option (Int32 × Mem)} {x1 : Int32} {x3 : Int32} {x4 : Int32} {y0 : Int32} {y1 : Int32} {ls : Array Slot} {H : Heap} {locs : List Loc} (C : Cx p s m args meth c cX12_tapersOf (some .int) 5 RX12) (G : Gf E s) (hr31 : ∀ {x1 : Int32} {x2 : Int32} {x3 : Int32} {x4 : Int32} {σ : Mem} {ls : Array Slot} {H : Heap} {locs : List Loc}, Hx E σ s H locs → lv_has ls 5 [(0, .ref (gB E + 399)), (1, .int x1), (2, .int x2), (3, .int x3), (4, .int x4)] → rc31 x1 x2 x3 x4 σ = some r → W p l e (RM 206) s m args below meth c H locs 0 0 (QI E below args s r.1 r.2) (F0 m 31 ls [])) (X : Hx E σ s H locs) (hl : lv_has ls 5 [(0, .ref (gB E + 399)), (1, .int x1), (3, .int x3), (4, .int x4)]) (h : X12_tapersOf_74 rc31 x1 x3 x4 y0 y1 σ = some r) : W p l e (RM 206) s m args below meth c H locs 0 0 (QI E below args s r.1 r.2) (F0 m 74 ls [.int y1, .int y0]) := by
  rw [X12_tapersOf_74] at h
  refine lv_iadd C.1 C.2.1 dX12_tapersOf_74 ?_
  refine lv_istore_n (lv' := [(2, .int (y0 + y1)), (0, .ref (gB E + 399)), (1, .int x1), (3, .int x3), (4, .int x4)]) C.1 C.2.1 dX12_tapersOf_75 rfl hl (by decide) rfl (fun ls hl => ?_)
  refine lv_iinc (v := (x4 + 1)) (lv' := [(4, .int (x4 + 1)), (2, .int (y0 + y1)), (0, .ref (gB E + 399)), (1, .int x1), (3, .int x3)]) C.1 C.2.1 dX12_tapersOf_76 hl (k := 4) rfl rfl (by decide) rfl (fun ls hl => ?_)
  refine lv_goto (tgt := 31) C.1 C.2.1 dX12_tapersOf_79 (by decide) ?_
  exact hr31 X (lv_sub hl [2, 3, 1, 4, 0] rfl) h

set_option maxRecDepth 20000 in
theorem w_X12_tapersOf_73 {r : (Int32 × Mem)} {σ : Mem} {rc31 : Int32 → Int32 → Int32 → Int32 → Mem → Option (Int32 × Mem)} {x1 : Int32} {x3 : Int32} {x4 : Int32} {y0 : Int32} {ls : Array Slot} {H : Heap} {locs : List Loc} (C : Cx p s m args meth c cX12_tapersOf (some .int) 5 RX12) (G : Gf E s) (hr31 : ∀ {x1 : Int32} {x2 : Int32} {x3 : Int32} {x4 : Int32} {σ : Mem} {ls : Array Slot} {H : Heap} {locs : List Loc}, Hx E σ s H locs → lv_has ls 5 [(0, .ref (gB E + 399)), (1, .int x1), (2, .int x2), (3, .int x3), (4, .int x4)] → rc31 x1 x2 x3 x4 σ = some r → W p l e (RM 206) s m args below meth c H locs 0 0 (QI E below args s r.1 r.2) (F0 m 31 ls [])) (X : Hx E σ s H locs) (hl : lv_has ls 5 [(0, .ref (gB E + 399)), (1, .int x1), (3, .int x3), (4, .int x4)]) (h : X12_tapersOf_73 rc31 x1 x3 x4 y0 σ = some r) : W p l e (RM 206) s m args below meth c H locs 0 0 (QI E below args s r.1 r.2) (F0 m 73 ls [.int y0]) := by
  rw [X12_tapersOf_73] at h
  refine lv_iconst (v := 0) C.1 C.2.1 dX12_tapersOf_73 (by decide) ?_
  exact w_X12_tapersOf_74 C G hr31 X (lv_sub hl [0, 1, 2, 3] rfl) h

set_option maxRecDepth 20000 in
theorem w_X12_tapersOf_31 {r : (Int32 × Mem)} (C : Cx p s m args meth c cX12_tapersOf (some .int) 5 RX12) (G : Gf E s) : ∀ (f : Nat) {x1 : Int32} {x2 : Int32} {x3 : Int32} {x4 : Int32} {σ : Mem} {ls : Array Slot} {H : Heap} {locs : List Loc}, Hx E σ s H locs → lv_has ls 5 [(0, .ref (gB E + 399)), (1, .int x1), (2, .int x2), (3, .int x3), (4, .int x4)] → X12_tapersOf_31 f x1 x2 x3 x4 σ = some r → W p l e (RM 206) s m args below meth c H locs 0 0 (QI E below args s r.1 r.2) (F0 m 31 ls []) := by
  intro f
  induction f with
  | zero =>
    intro x1 x2 x3 x4 σ ls H locs X hl h
    rw [X12_tapersOf_31] at h
    cases h
  | succ f ih =>
    intro x1 x2 x3 x4 σ ls H locs X hl h
    rw [X12_tapersOf_31] at h
    refine lv_iload C.1 C.2.1 dX12_tapersOf_31 (lv_at hl 4 rfl) ?_
    refine lv_aload_n C.1 C.2.1 dX12_tapersOf_33 rfl (lv_at hl 0 rfl) ?_
    refine gfX12 C G X (k := 399) kd_399 1 (v := .ref (gB E + 400)) rfl rfl (by decide) k_1652 rfl dX12_tapersOf_34 ?_
    refine lv_iconst (v := 3) C.1 C.2.1 dX12_tapersOf_37 (by decide) ?_
    obtain ⟨r38, e38, h⟩ := bnd h
    refine ald C G X (k := 400) kd_400 (ag_s e38).1 dX12_tapersOf_38 ?_
    rw [(ag_s e38).2]
    refine lv_icmp_ge (tgt := 82) C.1 C.2.1 dX12_tapersOf_39 (by decide) (fun c39 => ?_) (fun c39 => ?_)
    · replace h := ipos c39 h
      refine lv_aload_n C.1 C.2.1 dX12_tapersOf_82 rfl (lv_at hl 0 rfl) ?_
      refine gfX12 C G X (k := 399) kd_399 1 (v := .ref (gB E + 400)) rfl rfl (by decide) k_1652 rfl dX12_tapersOf_83 ?_
      refine lv_sipush (v := 128) C.1 C.2.1 dX12_tapersOf_86 (by decide) ?_
      refine lv_iconst (v := 4) C.1 C.2.1 dX12_tapersOf_89 (by decide) ?_
      refine lv_iload_n C.1 C.2.1 dX12_tapersOf_90 rfl (lv_at hl 1 rfl) ?_
      refine lv_imul C.1 C.2.1 dX12_tapersOf_91 ?_
      refine lv_iadd C.1 C.2.1 dX12_tapersOf_92 ?_
      refine lv_iconst (v := 1) C.1 C.2.1 dX12_tapersOf_93 (by decide) ?_
      refine lv_iadd C.1 C.2.1 dX12_tapersOf_94 ?_
      refine lv_iload_n C.1 C.2.1 dX12_tapersOf_95 rfl (lv_at hl 3 rfl) ?_
      obtain ⟨σ96, e96, h⟩ := bnd h
      refine ast C G X (k := 400) kd_400 (au_s e96).1 dX12_tapersOf_96 (fun H locs X => ?_)
      rw [(au_s e96).2] at X
      refine lv_iload_n C.1 C.2.1 dX12_tapersOf_97 rfl (lv_at hl 2 rfl) ?_
      rw [← Option.some.inj h]
      exact rtI C X dX12_tapersOf_98
    · replace h := ineg c39 h
      refine lv_iload_n C.1 C.2.1 dX12_tapersOf_42 rfl (lv_at hl 2 rfl) ?_
      refine lv_aload_n C.1 C.2.1 dX12_tapersOf_43 rfl (lv_at hl 0 rfl) ?_
      refine lv_aload_n C.1 C.2.1 dX12_tapersOf_44 rfl (lv_at hl 0 rfl) ?_
      refine lv_iload_n C.1 C.2.1 dX12_tapersOf_45 rfl (lv_at hl 1 rfl) ?_
      refine lv_iconst (v := 0) C.1 C.2.1 dX12_tapersOf_46 (by decide) ?_
      obtain ⟨r47, e47, h⟩ := bnd h
      refine afI X (runV C G X q_X12_ofWalker k_1915 kp_60 k_1913 (rcX12 G X kd_399) (c_X12_ofWalker l E e47) rfl hl.1 rfl (Nat.le_of_ble_eq_true rfl) ⟨Nat.le_of_ble_eq_true rfl, Nat.le_of_ble_eq_true rfl⟩ ⟨Nat.le_of_ble_eq_true rfl, Nat.le_of_ble_eq_true rfl⟩ dX12_tapersOf_47) (fun H locs X => ?_)
      refine lv_iload C.1 C.2.1 dX12_tapersOf_50 (lv_at hl 4 rfl) ?_
      obtain ⟨r52, e52, h⟩ := bnd h
      refine afI X (runV C G X q_X12_farOf k_1940 kp_66 k_1938 (rcX12 G X kd_399) (c_X12_farOf l E e52) rfl hl.1 rfl (Nat.le_of_ble_eq_true rfl) ⟨Nat.le_of_ble_eq_true rfl, Nat.le_of_ble_eq_true rfl⟩ ⟨Nat.le_of_ble_eq_true rfl, Nat.le_of_ble_eq_true rfl⟩ dX12_tapersOf_52) (fun H locs X => ?_)
      refine lv_iconst (v := -1) C.1 C.2.1 dX12_tapersOf_55 (by decide) ?_
      refine lv_icmp_eq (tgt := 73) C.1 C.2.1 dX12_tapersOf_56 (by decide) (fun c56 => ?_) (fun c56 => ?_)
      · replace h := ipos c56 h
        exact w_X12_tapersOf_73 C G ih X (lv_sub hl [0, 1, 3, 4] rfl) h
      · replace h := ineg c56 h
        refine lv_aload_n C.1 C.2.1 dX12_tapersOf_59 rfl (lv_at hl 0 rfl) ?_
        refine lv_iload_n C.1 C.2.1 dX12_tapersOf_60 rfl (lv_at hl 1 rfl) ?_
        refine lv_iload C.1 C.2.1 dX12_tapersOf_61 (lv_at hl 4 rfl) ?_
        obtain ⟨r63, σ63, e63, h⟩ := bnd2 h
        refine afI (r0 := r63) (σ' := σ63) X (runV C G X q_X12_doesLight k_1899 kp_56 k_1897 (rcX12 G X kd_399) (c_X12_doesLight l E e63) rfl hl.1 rfl (Nat.le_of_ble_eq_true rfl) ⟨Nat.le_of_ble_eq_true rfl, Nat.le_of_ble_eq_true rfl⟩ ⟨Nat.le_of_ble_eq_true rfl, Nat.le_of_ble_eq_true rfl⟩ dX12_tapersOf_63) (fun H locs X => ?_)
        refine lv_if_eq (tgt := 73) C.1 C.2.1 dX12_tapersOf_66 (by decide) (fun c66 => ?_) (fun c66 => ?_)
        · replace h := ipos c66 h
          exact w_X12_tapersOf_73 C G ih X (lv_sub hl [0, 1, 3, 4] rfl) h
        · replace h := ineg c66 h
          refine lv_iconst (v := 1) C.1 C.2.1 dX12_tapersOf_69 (by decide) ?_
          refine lv_goto (tgt := 74) C.1 C.2.1 dX12_tapersOf_70 (by decide) ?_
          exact w_X12_tapersOf_74 C G ih X (lv_sub hl [0, 1, 3, 4] rfl) h

set_option maxRecDepth 20000 in
theorem w_X12_tapersOf {r : (Int32 × Mem)} {σ : Mem} {x1 : Int32} {ls : Array Slot} {H : Heap} {locs : List Loc} (C : Cx p s m args meth c cX12_tapersOf (some .int) 5 RX12) (G : Gf E s) (X : Hx E σ s H locs) (hl : lv_has ls 5 [(0, .ref (gB E + 399)), (1, .int x1)]) (h : X12_tapersOf x1 σ = some r) : W p l e (RM 206) s m args below meth c H locs 0 0 (QI E below args s r.1 r.2) (F0 m 0 ls []) := by
  rw [X12_tapersOf] at h
  refine lv_iconst (v := 0) C.1 C.2.1 dX12_tapersOf_0 (by decide) ?_
  refine lv_istore_n (lv' := [(2, .int (0 : Int32)), (0, .ref (gB E + 399)), (1, .int x1)]) C.1 C.2.1 dX12_tapersOf_1 rfl hl (by decide) rfl (fun ls hl => ?_)
  refine lv_aload_n C.1 C.2.1 dX12_tapersOf_2 rfl (lv_at hl 1 rfl) ?_
  refine lv_iload_n C.1 C.2.1 dX12_tapersOf_3 rfl (lv_at hl 2 rfl) ?_
  refine lv_iconst (v := 1) C.1 C.2.1 dX12_tapersOf_4 (by decide) ?_
  obtain ⟨r5, e5, h⟩ := bnd h
  refine afI X (runV C G X q_X12_ofWalker k_1915 kp_60 k_1913 (rcX12 G X kd_399) (c_X12_ofWalker l E e5) rfl hl.1 rfl (Nat.le_of_ble_eq_true rfl) ⟨Nat.le_of_ble_eq_true rfl, Nat.le_of_ble_eq_true rfl⟩ ⟨Nat.le_of_ble_eq_true rfl, Nat.le_of_ble_eq_true rfl⟩ dX12_tapersOf_5) (fun H locs X => ?_)
  refine lv_istore_n (lv' := [(3, .int r5), (2, .int (0 : Int32)), (0, .ref (gB E + 399)), (1, .int x1)]) C.1 C.2.1 dX12_tapersOf_8 rfl hl (by decide) rfl (fun ls hl => ?_)
  refine lv_aload_n C.1 C.2.1 dX12_tapersOf_9 rfl (lv_at hl 2 rfl) ?_
  refine gfX12 C G X (k := 399) kd_399 1 (v := .ref (gB E + 400)) rfl rfl (by decide) k_1652 rfl dX12_tapersOf_10 ?_
  refine lv_sipush (v := 128) C.1 C.2.1 dX12_tapersOf_13 (by decide) ?_
  refine lv_iconst (v := 4) C.1 C.2.1 dX12_tapersOf_16 (by decide) ?_
  refine lv_iload_n C.1 C.2.1 dX12_tapersOf_17 rfl (lv_at hl 3 rfl) ?_
  refine lv_imul C.1 C.2.1 dX12_tapersOf_18 ?_
  refine lv_iadd C.1 C.2.1 dX12_tapersOf_19 ?_
  refine lv_iconst (v := 1) C.1 C.2.1 dX12_tapersOf_20 (by decide) ?_
  refine lv_iadd C.1 C.2.1 dX12_tapersOf_21 ?_
  refine lv_iconst (v := 1) C.1 C.2.1 dX12_tapersOf_22 (by decide) ?_
  refine lv_iload_n C.1 C.2.1 dX12_tapersOf_23 rfl (lv_at hl 0 rfl) ?_
  obtain ⟨r24, e24, h⟩ := bnd h
  refine afI X (runS C G X q_X12_greater k_1969 k_1968 (c_X12_greater l E e24) rfl hl.1 rfl (Nat.le_of_ble_eq_true rfl) ⟨Nat.le_of_ble_eq_true rfl, Nat.le_of_ble_eq_true rfl⟩ ⟨Nat.le_of_ble_eq_true rfl, Nat.le_of_ble_eq_true rfl⟩ dX12_tapersOf_24) (fun H locs X => ?_)
  obtain ⟨σ27, e27, h⟩ := bnd h
  refine ast C G X (k := 400) kd_400 (au_s e27).1 dX12_tapersOf_27 (fun H locs X => ?_)
  rw [(au_s e27).2] at X
  refine lv_iconst (v := 0) C.1 C.2.1 dX12_tapersOf_28 (by decide) ?_
  refine lv_istore (lv' := [(4, .int (0 : Int32)), (3, .int r5), (2, .int (0 : Int32)), (0, .ref (gB E + 399)), (1, .int x1)]) C.1 C.2.1 dX12_tapersOf_29 hl (by decide) rfl (fun ls hl => ?_)
  exact w_X12_tapersOf_31 C G FU X (lv_sub hl [3, 4, 2, 1, 0] rfl) h

theorem c_X12_tapersOf (l : Launch) (E : GE) {σ : Mem} {x1 : Int32} {r : (Int32 × Mem)} (h : X12_tapersOf x1 σ = some r) : CtI l E yX12_tapersOf cX12_tapersOf 5 .int 206 [.ref (gB E + 399), .int x1] σ r.1 r.2 := by
  refine Met.ofW (cc := cX12_tapersOf) (maxL := 5) (ret := (some .int)) (by decide) rfl ?_
  intro p e s m args below meth c s₁ B hml hv
  obtain ⟨rfl, G, X⟩ := start hv
  have C := cxof B hml
  have hl := lv_entry [.ref (gB E + 399), .int x1] (n := 5) (Nat.le_of_ble_eq_true rfl)
  rw [lg_entry_eq]
  generalize (lg_sl [.ref (gB E + 399), .int x1] ++ List.replicate (5 - (lg_sl [.ref (gB E + 399), .int x1]).length) Slot.unset).toArray = ls at hl ⊢
  exact w_X12_tapersOf C G X hl h

set_option maxRecDepth 20000 in
theorem w_X12_wouldTurn_59 {r : (Int32 × Mem)} {σ : Mem} {rc5 : Int32 → Int32 → Int32 → Int32 → Mem → Option (Int32 × Mem)} {x1 : Int32} {x2 : Int32} {x4 : Int32} {y0 : Int32} {ls : Array Slot} {H : Heap} {locs : List Loc} (C : Cx p s m args meth c cX12_wouldTurn (some .boolean) 5 RX12) (G : Gf E s) (hr5 : ∀ {x1 : Int32} {x2 : Int32} {x3 : Int32} {x4 : Int32} {σ : Mem} {ls : Array Slot} {H : Heap} {locs : List Loc}, Hx E σ s H locs → lv_has ls 5 [(0, .ref (gB E + 399)), (1, .int x1), (2, .int x2), (3, .int x3), (4, .int x4)] → rc5 x1 x2 x3 x4 σ = some r → W p l e (RM 205) s m args below meth c H locs 0 0 (QI E below args s r.1 r.2) (F0 m 5 ls [])) (X : Hx E σ s H locs) (hl : lv_has ls 5 [(0, .ref (gB E + 399)), (1, .int x1), (2, .int x2), (4, .int x4)]) (h : X12_wouldTurn_59 rc5 x1 x2 x4 y0 σ = some r) : W p l e (RM 205) s m args below meth c H locs 0 0 (QI E below args s r.1 r.2) (F0 m 59 ls [.int y0]) := by
  rw [X12_wouldTurn_59] at h
  refine lv_istore_n (lv' := [(3, .int y0), (0, .ref (gB E + 399)), (1, .int x1), (2, .int x2), (4, .int x4)]) C.1 C.2.1 dX12_wouldTurn_59 rfl hl (by decide) rfl (fun ls hl => ?_)
  refine lv_iinc (v := (x4 + 1)) (lv' := [(4, .int (x4 + 1)), (3, .int y0), (0, .ref (gB E + 399)), (1, .int x1), (2, .int x2)]) C.1 C.2.1 dX12_wouldTurn_60 hl (k := 4) rfl rfl (by decide) rfl (fun ls hl => ?_)
  refine lv_goto (tgt := 5) C.1 C.2.1 dX12_wouldTurn_63 (by decide) ?_
  exact hr5 X (lv_sub hl [2, 3, 4, 1, 0] rfl) h

set_option maxRecDepth 20000 in
theorem w_X12_wouldTurn_54 {r : (Int32 × Mem)} {σ : Mem} {rc5 : Int32 → Int32 → Int32 → Int32 → Mem → Option (Int32 × Mem)} {x1 : Int32} {x2 : Int32} {x4 : Int32} {ls : Array Slot} {H : Heap} {locs : List Loc} (C : Cx p s m args meth c cX12_wouldTurn (some .boolean) 5 RX12) (G : Gf E s) (hr5 : ∀ {x1 : Int32} {x2 : Int32} {x3 : Int32} {x4 : Int32} {σ : Mem} {ls : Array Slot} {H : Heap} {locs : List Loc}, Hx E σ s H locs → lv_has ls 5 [(0, .ref (gB E + 399)), (1, .int x1), (2, .int x2), (3, .int x3), (4, .int x4)] → rc5 x1 x2 x3 x4 σ = some r → W p l e (RM 205) s m args below meth c H locs 0 0 (QI E below args s r.1 r.2) (F0 m 5 ls [])) (X : Hx E σ s H locs) (hl : lv_has ls 5 [(0, .ref (gB E + 399)), (1, .int x1), (2, .int x2), (4, .int x4)]) (h : X12_wouldTurn_54 rc5 x1 x2 x4 σ = some r) : W p l e (RM 205) s m args below meth c H locs 0 0 (QI E below args s r.1 r.2) (F0 m 54 ls []) := by
  rw [X12_wouldTurn_54] at h
  refine lv_iconst (v := 1) C.1 C.2.1 dX12_wouldTurn_54 (by decide) ?_
  refine lv_goto (tgt := 59) C.1 C.2.1 dX12_wouldTurn_55 (by decide) ?_
  exact w_X12_wouldTurn_59 C G hr5 X (lv_sub hl [0, 1, 2, 3] rfl) h

set_option maxRecDepth 20000 in
theorem w_X12_wouldTurn_58 {r : (Int32 × Mem)} {σ : Mem} {rc5 : Int32 → Int32 → Int32 → Int32 → Mem → Option (Int32 × Mem)} {x1 : Int32} {x2 : Int32} {x4 : Int32} {ls : Array Slot} {H : Heap} {locs : List Loc} (C : Cx p s m args meth c cX12_wouldTurn (some .boolean) 5 RX12) (G : Gf E s) (hr5 : ∀ {x1 : Int32} {x2 : Int32} {x3 : Int32} {x4 : Int32} {σ : Mem} {ls : Array Slot} {H : Heap} {locs : List Loc}, Hx E σ s H locs → lv_has ls 5 [(0, .ref (gB E + 399)), (1, .int x1), (2, .int x2), (3, .int x3), (4, .int x4)] → rc5 x1 x2 x3 x4 σ = some r → W p l e (RM 205) s m args below meth c H locs 0 0 (QI E below args s r.1 r.2) (F0 m 5 ls [])) (X : Hx E σ s H locs) (hl : lv_has ls 5 [(0, .ref (gB E + 399)), (1, .int x1), (2, .int x2), (4, .int x4)]) (h : X12_wouldTurn_58 rc5 x1 x2 x4 σ = some r) : W p l e (RM 205) s m args below meth c H locs 0 0 (QI E below args s r.1 r.2) (F0 m 58 ls []) := by
  rw [X12_wouldTurn_58] at h
  refine lv_iconst (v := 0) C.1 C.2.1 dX12_wouldTurn_58 (by decide) ?_
  exact w_X12_wouldTurn_59 C G hr5 X (lv_sub hl [0, 1, 2, 3] rfl) h

set_option maxRecDepth 20000 in
theorem w_X12_wouldTurn_5 {r : (Int32 × Mem)} (C : Cx p s m args meth c cX12_wouldTurn (some .boolean) 5 RX12) (G : Gf E s) : ∀ (f : Nat) {x1 : Int32} {x2 : Int32} {x3 : Int32} {x4 : Int32} {σ : Mem} {ls : Array Slot} {H : Heap} {locs : List Loc}, Hx E σ s H locs → lv_has ls 5 [(0, .ref (gB E + 399)), (1, .int x1), (2, .int x2), (3, .int x3), (4, .int x4)] → X12_wouldTurn_5 f x1 x2 x3 x4 σ = some r → W p l e (RM 205) s m args below meth c H locs 0 0 (QI E below args s r.1 r.2) (F0 m 5 ls []) := by
  intro f
  induction f with
  | zero =>
    intro x1 x2 x3 x4 σ ls H locs X hl h
    rw [X12_wouldTurn_5] at h
    cases h
  | succ f ih =>
    intro x1 x2 x3 x4 σ ls H locs X hl h
    rw [X12_wouldTurn_5] at h
    refine lv_iload C.1 C.2.1 dX12_wouldTurn_5 (lv_at hl 4 rfl) ?_
    refine lv_aload_n C.1 C.2.1 dX12_wouldTurn_7 rfl (lv_at hl 0 rfl) ?_
    refine gfX12 C G X (k := 399) kd_399 1 (v := .ref (gB E + 400)) rfl rfl (by decide) k_1652 rfl dX12_wouldTurn_8 ?_
    refine lv_iconst (v := 3) C.1 C.2.1 dX12_wouldTurn_11 (by decide) ?_
    obtain ⟨r12, e12, h⟩ := bnd h
    refine ald C G X (k := 400) kd_400 (ag_s e12).1 dX12_wouldTurn_12 ?_
    rw [(ag_s e12).2]
    refine lv_icmp_ge (tgt := 66) C.1 C.2.1 dX12_wouldTurn_13 (by decide) (fun c13 => ?_) (fun c13 => ?_)
    · replace h := ipos c13 h
      refine lv_iload_n C.1 C.2.1 dX12_wouldTurn_66 rfl (lv_at hl 3 rfl) ?_
      obtain ⟨u67, z67, h⟩ := bnd h
      rw [← Option.some.inj h]
      exact rtZ C X (gb_s z67) dX12_wouldTurn_67
    · replace h := ineg c13 h
      refine lv_iload_n C.1 C.2.1 dX12_wouldTurn_16 rfl (lv_at hl 3 rfl) ?_
      refine lv_if_ne (tgt := 54) C.1 C.2.1 dX12_wouldTurn_17 (by decide) (fun c17 => ?_) (fun c17 => ?_)
      · replace h := ineg c17 h
        exact w_X12_wouldTurn_54 C G ih X (lv_sub hl [0, 1, 2, 4] rfl) h
      · replace h := ipos c17 h
        refine lv_aload_n C.1 C.2.1 dX12_wouldTurn_20 rfl (lv_at hl 0 rfl) ?_
        refine lv_iload C.1 C.2.1 dX12_wouldTurn_21 (lv_at hl 4 rfl) ?_
        refine lv_iconst (v := 2) C.1 C.2.1 dX12_wouldTurn_23 (by decide) ?_
        obtain ⟨r24, e24, h⟩ := bnd h
        refine afI X (runV C G X q_X12_of k_1855 kp_49 k_1853 (rcX12 G X kd_399) (c_X12_of l E e24) rfl hl.1 rfl (Nat.le_of_ble_eq_true rfl) ⟨Nat.le_of_ble_eq_true rfl, Nat.le_of_ble_eq_true rfl⟩ ⟨Nat.le_of_ble_eq_true rfl, Nat.le_of_ble_eq_true rfl⟩ dX12_wouldTurn_24) (fun H locs X => ?_)
        refine lv_iload_n C.1 C.2.1 dX12_wouldTurn_27 rfl (lv_at hl 2 rfl) ?_
        refine lv_icmp_ne (tgt := 58) C.1 C.2.1 dX12_wouldTurn_28 (by decide) (fun c28 => ?_) (fun c28 => ?_)
        · replace h := ineg c28 h
          exact w_X12_wouldTurn_58 C G ih X (lv_sub hl [0, 1, 2, 4] rfl) h
        · replace h := ipos c28 h
          refine lv_aload_n C.1 C.2.1 dX12_wouldTurn_31 rfl (lv_at hl 0 rfl) ?_
          refine lv_iload_n C.1 C.2.1 dX12_wouldTurn_32 rfl (lv_at hl 1 rfl) ?_
          refine lv_iload C.1 C.2.1 dX12_wouldTurn_33 (lv_at hl 4 rfl) ?_
          refine lv_bipush (v := 9) C.1 C.2.1 dX12_wouldTurn_35 (by decide) ?_
          refine lv_aload_n C.1 C.2.1 dX12_wouldTurn_37 rfl (lv_at hl 0 rfl) ?_
          refine lv_iload_n C.1 C.2.1 dX12_wouldTurn_38 rfl (lv_at hl 1 rfl) ?_
          refine lv_iload_n C.1 C.2.1 dX12_wouldTurn_39 rfl (lv_at hl 2 rfl) ?_
          obtain ⟨r40, e40, h⟩ := bnd h
          refine afI X (runV C G X q_X12_liking k_1907 kp_58 k_1905 (rcX12 G X kd_399) (c_X12_liking l E e40) rfl hl.1 rfl (Nat.le_of_ble_eq_true rfl) ⟨Nat.le_of_ble_eq_true rfl, Nat.le_of_ble_eq_true rfl⟩ ⟨Nat.le_of_ble_eq_true rfl, Nat.le_of_ble_eq_true rfl⟩ dX12_wouldTurn_40) (fun H locs X => ?_)
          refine lv_iconst (v := 1) C.1 C.2.1 dX12_wouldTurn_43 (by decide) ?_
          refine lv_iadd C.1 C.2.1 dX12_wouldTurn_44 ?_
          obtain ⟨r45, e45, h⟩ := bnd h
          refine afI X (runS C G X q_X12_lesser k_1958 k_1957 (c_X12_lesser l E e45) rfl hl.1 rfl (Nat.le_of_ble_eq_true rfl) ⟨Nat.le_of_ble_eq_true rfl, Nat.le_of_ble_eq_true rfl⟩ ⟨Nat.le_of_ble_eq_true rfl, Nat.le_of_ble_eq_true rfl⟩ dX12_wouldTurn_45) (fun H locs X => ?_)
          obtain ⟨r48, σ48, e48, h⟩ := bnd2 h
          refine afI (r0 := r48) (σ' := σ48) X (runV C G X q_X12_wouldLight k_1911 kp_59 k_1909 (rcX12 G X kd_399) (c_X12_wouldLight l E e48) rfl hl.1 rfl (Nat.le_of_ble_eq_true rfl) ⟨Nat.le_of_ble_eq_true rfl, Nat.le_of_ble_eq_true rfl⟩ ⟨Nat.le_of_ble_eq_true rfl, Nat.le_of_ble_eq_true rfl⟩ dX12_wouldTurn_48) (fun H locs X => ?_)
          refine lv_if_eq (tgt := 58) C.1 C.2.1 dX12_wouldTurn_51 (by decide) (fun c51 => ?_) (fun c51 => ?_)
          · replace h := ipos c51 h
            exact w_X12_wouldTurn_58 C G ih X (lv_sub hl [0, 1, 2, 4] rfl) h
          · replace h := ineg c51 h
            exact w_X12_wouldTurn_54 C G ih X (lv_sub hl [0, 1, 2, 4] rfl) h

set_option maxRecDepth 20000 in
theorem w_X12_wouldTurn {r : (Int32 × Mem)} {σ : Mem} {x1 : Int32} {x2 : Int32} {ls : Array Slot} {H : Heap} {locs : List Loc} (C : Cx p s m args meth c cX12_wouldTurn (some .boolean) 5 RX12) (G : Gf E s) (X : Hx E σ s H locs) (hl : lv_has ls 5 [(0, .ref (gB E + 399)), (1, .int x1), (2, .int x2)]) (h : X12_wouldTurn x1 x2 σ = some r) : W p l e (RM 205) s m args below meth c H locs 0 0 (QI E below args s r.1 r.2) (F0 m 0 ls []) := by
  rw [X12_wouldTurn] at h
  refine lv_iconst (v := 0) C.1 C.2.1 dX12_wouldTurn_0 (by decide) ?_
  refine lv_istore_n (lv' := [(3, .int (0 : Int32)), (0, .ref (gB E + 399)), (1, .int x1), (2, .int x2)]) C.1 C.2.1 dX12_wouldTurn_1 rfl hl (by decide) rfl (fun ls hl => ?_)
  refine lv_iconst (v := 0) C.1 C.2.1 dX12_wouldTurn_2 (by decide) ?_
  refine lv_istore (lv' := [(4, .int (0 : Int32)), (3, .int (0 : Int32)), (0, .ref (gB E + 399)), (1, .int x1), (2, .int x2)]) C.1 C.2.1 dX12_wouldTurn_3 hl (by decide) rfl (fun ls hl => ?_)
  exact w_X12_wouldTurn_5 C G FU X (lv_sub hl [2, 3, 4, 1, 0] rfl) h

theorem c_X12_wouldTurn (l : Launch) (E : GE) {σ : Mem} {x1 : Int32} {x2 : Int32} {r : (Int32 × Mem)} (h : X12_wouldTurn x1 x2 σ = some r) : CtI l E yX12_wouldTurn cX12_wouldTurn 5 .boolean 205 [.ref (gB E + 399), .int x1, .int x2] σ r.1 r.2 := by
  refine Met.ofW (cc := cX12_wouldTurn) (maxL := 5) (ret := (some .boolean)) (by decide) rfl ?_
  intro p e s m args below meth c s₁ B hml hv
  obtain ⟨rfl, G, X⟩ := start hv
  have C := cxof B hml
  have hl := lv_entry [.ref (gB E + 399), .int x1, .int x2] (n := 5) (Nat.le_of_ble_eq_true rfl)
  rw [lg_entry_eq]
  generalize (lg_sl [.ref (gB E + 399), .int x1, .int x2] ++ List.replicate (5 - (lg_sl [.ref (gB E + 399), .int x1, .int x2]).length) Slot.unset).toArray = ls at hl ⊢
  exact w_X12_wouldTurn C G X hl h

set_option maxRecDepth 20000 in
theorem w_X12_turnOf_9 {r : (Int32 × Mem)} (C : Cx p s m args meth c cX12_turnOf (some .int) 7 RX12) (G : Gf E s) : ∀ (f : Nat) {x1 : Int32} {x2 : Int32} {x3 : Int32} {x4 : Int32} {σ : Mem} {ls : Array Slot} {H : Heap} {locs : List Loc}, Hx E σ s H locs → lv_has ls 7 [(0, .ref (gB E + 399)), (1, .int x1), (2, .int x2), (3, .int x3), (4, .int x4)] → X12_turnOf_9 f x1 x2 x3 x4 σ = some r → W p l e (RM 206) s m args below meth c H locs 0 0 (QI E below args s r.1 r.2) (F0 m 9 ls []) := by
  intro f
  induction f with
  | zero =>
    intro x1 x2 x3 x4 σ ls H locs X hl h
    rw [X12_turnOf_9] at h
    cases h
  | succ f ih =>
    intro x1 x2 x3 x4 σ ls H locs X hl h
    rw [X12_turnOf_9] at h
    refine lv_iload C.1 C.2.1 dX12_turnOf_9 (lv_at hl 4 rfl) ?_
    refine lv_aload_n C.1 C.2.1 dX12_turnOf_11 rfl (lv_at hl 0 rfl) ?_
    refine gfX12 C G X (k := 399) kd_399 1 (v := .ref (gB E + 400)) rfl rfl (by decide) k_1652 rfl dX12_turnOf_12 ?_
    refine lv_iconst (v := 3) C.1 C.2.1 dX12_turnOf_15 (by decide) ?_
    obtain ⟨r16, e16, h⟩ := bnd h
    refine ald C G X (k := 400) kd_400 (ag_s e16).1 dX12_turnOf_16 ?_
    rw [(ag_s e16).2]
    refine lv_icmp_ge (tgt := 102) C.1 C.2.1 dX12_turnOf_17 (by decide) (fun c17 => ?_) (fun c17 => ?_)
    · replace h := ipos c17 h
      refine lv_iload_n C.1 C.2.1 dX12_turnOf_102 rfl (lv_at hl 2 rfl) ?_
      rw [← Option.some.inj h]
      exact rtI C X dX12_turnOf_103
    · replace h := ineg c17 h
      refine lv_aload_n C.1 C.2.1 dX12_turnOf_20 rfl (lv_at hl 0 rfl) ?_
      refine lv_iload C.1 C.2.1 dX12_turnOf_21 (lv_at hl 4 rfl) ?_
      refine lv_iconst (v := 2) C.1 C.2.1 dX12_turnOf_23 (by decide) ?_
      obtain ⟨r24, e24, h⟩ := bnd h
      refine afI X (runV C G X q_X12_of k_1855 kp_49 k_1853 (rcX12 G X kd_399) (c_X12_of l E e24) rfl hl.1 rfl (Nat.le_of_ble_eq_true rfl) ⟨Nat.le_of_ble_eq_true rfl, Nat.le_of_ble_eq_true rfl⟩ ⟨Nat.le_of_ble_eq_true rfl, Nat.le_of_ble_eq_true rfl⟩ dX12_turnOf_24) (fun H locs X => ?_)
      refine lv_istore (lv' := [(5, .int r24), (0, .ref (gB E + 399)), (1, .int x1), (2, .int x2), (3, .int x3), (4, .int x4)]) C.1 C.2.1 dX12_turnOf_27 hl (by decide) rfl (fun ls hl => ?_)
      refine lv_aload_n C.1 C.2.1 dX12_turnOf_29 rfl (lv_at hl 1 rfl) ?_
      refine lv_aload_n C.1 C.2.1 dX12_turnOf_30 rfl (lv_at hl 1 rfl) ?_
      refine lv_iload_n C.1 C.2.1 dX12_turnOf_31 rfl (lv_at hl 2 rfl) ?_
      refine lv_iconst (v := 0) C.1 C.2.1 dX12_turnOf_32 (by decide) ?_
      obtain ⟨r33, e33, h⟩ := bnd h
      refine afI X (runV C G X q_X12_ofWalker k_1915 kp_60 k_1913 (rcX12 G X kd_399) (c_X12_ofWalker l E e33) rfl hl.1 rfl (Nat.le_of_ble_eq_true rfl) ⟨Nat.le_of_ble_eq_true rfl, Nat.le_of_ble_eq_true rfl⟩ ⟨Nat.le_of_ble_eq_true rfl, Nat.le_of_ble_eq_true rfl⟩ dX12_turnOf_33) (fun H locs X => ?_)
      refine lv_iload C.1 C.2.1 dX12_turnOf_36 (lv_at hl 5 rfl) ?_
      obtain ⟨r38, e38, h⟩ := bnd h
      refine afI X (runV C G X q_X12_farOf k_1940 kp_66 k_1938 (rcX12 G X kd_399) (c_X12_farOf l E e38) rfl hl.1 rfl (Nat.le_of_ble_eq_true rfl) ⟨Nat.le_of_ble_eq_true rfl, Nat.le_of_ble_eq_true rfl⟩ ⟨Nat.le_of_ble_eq_true rfl, Nat.le_of_ble_eq_true rfl⟩ dX12_turnOf_38) (fun H locs X => ?_)
      refine lv_istore (lv' := [(6, .int r38), (5, .int r24), (0, .ref (gB E + 399)), (1, .int x1), (2, .int x2), (3, .int x3), (4, .int x4)]) C.1 C.2.1 dX12_turnOf_41 hl (by decide) rfl (fun ls hl => ?_)
      refine lv_iload C.1 C.2.1 dX12_turnOf_43 (lv_at hl 1 rfl) ?_
      refine lv_iconst (v := -1) C.1 C.2.1 dX12_turnOf_45 (by decide) ?_
      refine lv_icmp_eq (tgt := 96) C.1 C.2.1 dX12_turnOf_46 (by decide) (fun c46 => ?_) (fun c46 => ?_)
      · replace h := ipos c46 h
        refine lv_iinc (v := (x4 + 1)) (lv' := [(4, .int (x4 + 1)), (6, .int r38), (5, .int r24), (0, .ref (gB E + 399)), (1, .int x1), (2, .int x2), (3, .int x3)]) C.1 C.2.1 dX12_turnOf_96 hl (k := 6) rfl rfl (by decide) rfl (fun ls hl => ?_)
        refine lv_goto (tgt := 9) C.1 C.2.1 dX12_turnOf_99 (by decide) ?_
        exact ih X (lv_sub hl [3, 4, 5, 6, 0] rfl) h
      · replace h := ineg c46 h
        refine lv_iload C.1 C.2.1 dX12_turnOf_49 (lv_at hl 1 rfl) ?_
        refine lv_iload_n C.1 C.2.1 dX12_turnOf_51 rfl (lv_at hl 3 rfl) ?_
        refine lv_icmp_eq (tgt := 96) C.1 C.2.1 dX12_turnOf_52 (by decide) (fun c52 => ?_) (fun c52 => ?_)
        · replace h := ipos c52 h
          refine lv_iinc (v := (x4 + 1)) (lv' := [(4, .int (x4 + 1)), (6, .int r38), (5, .int r24), (0, .ref (gB E + 399)), (1, .int x1), (2, .int x2), (3, .int x3)]) C.1 C.2.1 dX12_turnOf_96 hl (k := 6) rfl rfl (by decide) rfl (fun ls hl => ?_)
          refine lv_goto (tgt := 9) C.1 C.2.1 dX12_turnOf_99 (by decide) ?_
          exact ih X (lv_sub hl [3, 4, 5, 6, 0] rfl) h
        · replace h := ineg c52 h
          refine lv_iload C.1 C.2.1 dX12_turnOf_55 (lv_at hl 0 rfl) ?_
          refine lv_iconst (v := -1) C.1 C.2.1 dX12_turnOf_57 (by decide) ?_
          refine lv_icmp_eq (tgt := 96) C.1 C.2.1 dX12_turnOf_58 (by decide) (fun c58 => ?_) (fun c58 => ?_)
          · replace h := ipos c58 h
            refine lv_iinc (v := (x4 + 1)) (lv' := [(4, .int (x4 + 1)), (6, .int r38), (5, .int r24), (0, .ref (gB E + 399)), (1, .int x1), (2, .int x2), (3, .int x3)]) C.1 C.2.1 dX12_turnOf_96 hl (k := 6) rfl rfl (by decide) rfl (fun ls hl => ?_)
            refine lv_goto (tgt := 9) C.1 C.2.1 dX12_turnOf_99 (by decide) ?_
            exact ih X (lv_sub hl [3, 4, 5, 6, 0] rfl) h
          · replace h := ineg c58 h
            refine lv_iload C.1 C.2.1 dX12_turnOf_61 (lv_at hl 0 rfl) ?_
            refine lv_iload_n C.1 C.2.1 dX12_turnOf_63 rfl (lv_at hl 5 rfl) ?_
            refine lv_icmp_ge (tgt := 96) C.1 C.2.1 dX12_turnOf_64 (by decide) (fun c64 => ?_) (fun c64 => ?_)
            · replace h := ipos c64 h
              refine lv_iinc (v := (x4 + 1)) (lv' := [(4, .int (x4 + 1)), (6, .int r38), (5, .int r24), (0, .ref (gB E + 399)), (1, .int x1), (2, .int x2), (3, .int x3)]) C.1 C.2.1 dX12_turnOf_96 hl (k := 6) rfl rfl (by decide) rfl (fun ls hl => ?_)
              refine lv_goto (tgt := 9) C.1 C.2.1 dX12_turnOf_99 (by decide) ?_
              exact ih X (lv_sub hl [3, 4, 5, 6, 0] rfl) h
            · replace h := ineg c64 h
              refine lv_aload_n C.1 C.2.1 dX12_turnOf_67 rfl (lv_at hl 2 rfl) ?_
              refine lv_iload_n C.1 C.2.1 dX12_turnOf_68 rfl (lv_at hl 3 rfl) ?_
              refine lv_iload C.1 C.2.1 dX12_turnOf_69 (lv_at hl 6 rfl) ?_
              obtain ⟨r71, σ71, e71, h⟩ := bnd2 h
              refine afI (r0 := r71) (σ' := σ71) X (runV C G X q_X12_doesLight k_1899 kp_56 k_1897 (rcX12 G X kd_399) (c_X12_doesLight l E e71) rfl hl.1 rfl (Nat.le_of_ble_eq_true rfl) ⟨Nat.le_of_ble_eq_true rfl, Nat.le_of_ble_eq_true rfl⟩ ⟨Nat.le_of_ble_eq_true rfl, Nat.le_of_ble_eq_true rfl⟩ dX12_turnOf_71) (fun H locs X => ?_)
              refine lv_if_eq (tgt := 96) C.1 C.2.1 dX12_turnOf_74 (by decide) (fun c74 => ?_) (fun c74 => ?_)
              · replace h := ipos c74 h
                refine lv_iinc (v := (x4 + 1)) (lv' := [(4, .int (x4 + 1)), (6, .int r38), (5, .int r24), (0, .ref (gB E + 399)), (1, .int x1), (2, .int x2), (3, .int x3)]) C.1 C.2.1 dX12_turnOf_96 hl (k := 6) rfl rfl (by decide) rfl (fun ls hl => ?_)
                refine lv_goto (tgt := 9) C.1 C.2.1 dX12_turnOf_99 (by decide) ?_
                exact ih X (lv_sub hl [3, 4, 5, 6, 0] rfl) h
              · replace h := ineg c74 h
                refine lv_aload_n C.1 C.2.1 dX12_turnOf_77 rfl (lv_at hl 2 rfl) ?_
                refine lv_iload C.1 C.2.1 dX12_turnOf_78 (lv_at hl 1 rfl) ?_
                refine lv_iload_n C.1 C.2.1 dX12_turnOf_80 rfl (lv_at hl 3 rfl) ?_
                obtain ⟨r81, σ81, e81, h⟩ := bnd2 h
                refine afI (r0 := r81) (σ' := σ81) X (runV C G X q_X12_wouldTurn k_1990 kp_75 k_1988 (rcX12 G X kd_399) (c_X12_wouldTurn l E e81) rfl hl.1 rfl (Nat.le_of_ble_eq_true rfl) ⟨Nat.le_of_ble_eq_true rfl, Nat.le_of_ble_eq_true rfl⟩ ⟨Nat.le_of_ble_eq_true rfl, Nat.le_of_ble_eq_true rfl⟩ dX12_turnOf_81) (fun H locs X => ?_)
                refine lv_if_ne (tgt := 90) C.1 C.2.1 dX12_turnOf_84 (by decide) (fun c84 => ?_) (fun c84 => ?_)
                · replace h := ineg c84 h
                  refine lv_iload C.1 C.2.1 dX12_turnOf_90 (lv_at hl 0 rfl) ?_
                  refine lv_istore_n (lv' := [(3, .int r38), (6, .int r38), (5, .int r24), (0, .ref (gB E + 399)), (1, .int x1), (2, .int x2), (4, .int x4)]) C.1 C.2.1 dX12_turnOf_92 rfl hl (by decide) rfl (fun ls hl => ?_)
                  refine lv_iload C.1 C.2.1 dX12_turnOf_93 (lv_at hl 6 rfl) ?_
                  refine lv_istore_n (lv' := [(2, .int x4), (3, .int r38), (6, .int r38), (5, .int r24), (0, .ref (gB E + 399)), (1, .int x1), (4, .int x4)]) C.1 C.2.1 dX12_turnOf_95 rfl hl (by decide) rfl (fun ls hl => ?_)
                  refine lv_iinc (v := (x4 + 1)) (lv' := [(4, .int (x4 + 1)), (2, .int x4), (3, .int r38), (6, .int r38), (5, .int r24), (0, .ref (gB E + 399)), (1, .int x1)]) C.1 C.2.1 dX12_turnOf_96 hl (k := 6) rfl rfl (by decide) rfl (fun ls hl => ?_)
                  refine lv_goto (tgt := 9) C.1 C.2.1 dX12_turnOf_99 (by decide) ?_
                  exact ih X (lv_sub hl [5, 6, 1, 2, 0] rfl) h
                · replace h := ipos c84 h
                  refine lv_goto (tgt := 96) C.1 C.2.1 dX12_turnOf_87 (by decide) ?_
                  refine lv_iinc (v := (x4 + 1)) (lv' := [(4, .int (x4 + 1)), (6, .int r38), (5, .int r24), (0, .ref (gB E + 399)), (1, .int x1), (2, .int x2), (3, .int x3)]) C.1 C.2.1 dX12_turnOf_96 hl (k := 6) rfl rfl (by decide) rfl (fun ls hl => ?_)
                  refine lv_goto (tgt := 9) C.1 C.2.1 dX12_turnOf_99 (by decide) ?_
                  exact ih X (lv_sub hl [3, 4, 5, 6, 0] rfl) h

set_option maxRecDepth 20000 in
theorem w_X12_turnOf {r : (Int32 × Mem)} {σ : Mem} {x1 : Int32} {ls : Array Slot} {H : Heap} {locs : List Loc} (C : Cx p s m args meth c cX12_turnOf (some .int) 7 RX12) (G : Gf E s) (X : Hx E σ s H locs) (hl : lv_has ls 7 [(0, .ref (gB E + 399)), (1, .int x1)]) (h : X12_turnOf x1 σ = some r) : W p l e (RM 206) s m args below meth c H locs 0 0 (QI E below args s r.1 r.2) (F0 m 0 ls []) := by
  rw [X12_turnOf] at h
  refine lv_iconst (v := -1) C.1 C.2.1 dX12_turnOf_0 (by decide) ?_
  refine lv_istore_n (lv' := [(2, .int (-1 : Int32)), (0, .ref (gB E + 399)), (1, .int x1)]) C.1 C.2.1 dX12_turnOf_1 rfl hl (by decide) rfl (fun ls hl => ?_)
  refine lv_ldcw C.1 C.2.1 C.hown (C.ts _ k_1987) dX12_turnOf_2 ?_
  refine lv_istore_n (lv' := [(3, .int (2000000000 : Int32)), (2, .int (-1 : Int32)), (0, .ref (gB E + 399)), (1, .int x1)]) C.1 C.2.1 dX12_turnOf_5 rfl hl (by decide) rfl (fun ls hl => ?_)
  refine lv_iconst (v := 0) C.1 C.2.1 dX12_turnOf_6 (by decide) ?_
  refine lv_istore (lv' := [(4, .int (0 : Int32)), (3, .int (2000000000 : Int32)), (2, .int (-1 : Int32)), (0, .ref (gB E + 399)), (1, .int x1)]) C.1 C.2.1 dX12_turnOf_7 hl (by decide) rfl (fun ls hl => ?_)
  exact w_X12_turnOf_9 C G FU X (lv_sub hl [3, 4, 2, 1, 0] rfl) h

theorem c_X12_turnOf (l : Launch) (E : GE) {σ : Mem} {x1 : Int32} {r : (Int32 × Mem)} (h : X12_turnOf x1 σ = some r) : CtI l E yX12_turnOf cX12_turnOf 7 .int 206 [.ref (gB E + 399), .int x1] σ r.1 r.2 := by
  refine Met.ofW (cc := cX12_turnOf) (maxL := 7) (ret := (some .int)) (by decide) rfl ?_
  intro p e s m args below meth c s₁ B hml hv
  obtain ⟨rfl, G, X⟩ := start hv
  have C := cxof B hml
  have hl := lv_entry [.ref (gB E + 399), .int x1] (n := 7) (Nat.le_of_ble_eq_true rfl)
  rw [lg_entry_eq]
  generalize (lg_sl [.ref (gB E + 399), .int x1] ++ List.replicate (7 - (lg_sl [.ref (gB E + 399), .int x1]).length) Slot.unset).toArray = ls at hl ⊢
  exact w_X12_turnOf C G X hl h

set_option maxRecDepth 20000 in
theorem w_X12_walker_28 {r : (Int32 × Mem)} {σ : Mem} {x1 : Int32} {x2 : Int32} {y1 : Int32} {ls : Array Slot} {H : Heap} {locs : List Loc} (C : Cx p s m args meth c cX12_walker (some .int) 3 RX12) (G : Gf E s) (X : Hx E σ s H locs) (hl : lv_has ls 3 [(0, .ref (gB E + 399)), (1, .int x1), (2, .int x2)]) (h : X12_walker_28 x1 x2 y1 σ = some r) : W p l e (RM 207) s m args below meth c H locs 0 0 (QI E below args s r.1 r.2) (F0 m 28 ls [.int y1, .ref (gB E + 399)]) := by
  rw [X12_walker_28] at h
  obtain ⟨σ28, e28, h⟩ := bnd h
  refine pfX12 C G X (k := 399) kd_399 0 (x := y1) (ty := .int) rfl rfl (Nat.le_of_ble_eq_true rfl) (by decide) k_1651 rfl rfl (by decide +kernel) rfl rfl dX12_walker_28 (fun H locs X => ?_)
  replace X := pu_x e28 X
  refine lv_aload_n C.1 C.2.1 dX12_walker_31 rfl (lv_at hl 0 rfl) ?_
  refine gfX12 C G X (k := 399) kd_399 0 (v := .int (σ28 399 0)) rfl rfl (by decide) k_1651 rfl dX12_walker_32 ?_
  refine lv_if_le (tgt := 40) C.1 C.2.1 dX12_walker_35 (by decide) (fun c35 => ?_) (fun c35 => ?_)
  · replace h := ipos c35 h
    refine lv_iload_n C.1 C.2.1 dX12_walker_40 rfl (lv_at hl 2 rfl) ?_
    refine lv_iconst (v := 4) C.1 C.2.1 dX12_walker_41 (by decide) ?_
    refine lv_icmp_ge (tgt := 52) C.1 C.2.1 dX12_walker_42 (by decide) (fun c42 => ?_) (fun c42 => ?_)
    · replace h := ipos c42 h
      refine lv_iload_n C.1 C.2.1 dX12_walker_52 rfl (lv_at hl 2 rfl) ?_
      refine lv_iconst (v := 4) C.1 C.2.1 dX12_walker_53 (by decide) ?_
      refine lv_icmp_ne (tgt := 63) C.1 C.2.1 dX12_walker_54 (by decide) (fun c54 => ?_) (fun c54 => ?_)
      · replace h := ineg c54 h
        refine lv_iload_n C.1 C.2.1 dX12_walker_63 rfl (lv_at hl 2 rfl) ?_
        refine lv_iconst (v := 5) C.1 C.2.1 dX12_walker_64 (by decide) ?_
        refine lv_icmp_ne (tgt := 74) C.1 C.2.1 dX12_walker_65 (by decide) (fun c65 => ?_) (fun c65 => ?_)
        · replace h := ineg c65 h
          refine lv_aload_n C.1 C.2.1 dX12_walker_74 rfl (lv_at hl 0 rfl) ?_
          obtain ⟨r75, e75, h⟩ := bnd h
          refine afI X (runV C G X q_X12_litOfAll k_1994 kp_76 k_1992 (rcX12 G X kd_399) (c_X12_litOfAll l E e75) rfl hl.1 rfl (Nat.le_of_ble_eq_true rfl) ⟨Nat.le_of_ble_eq_true rfl, Nat.le_of_ble_eq_true rfl⟩ ⟨Nat.le_of_ble_eq_true rfl, Nat.le_of_ble_eq_true rfl⟩ dX12_walker_75) (fun H locs X => ?_)
          refine lv_if_ne (tgt := 85) C.1 C.2.1 dX12_walker_78 (by decide) (fun c78 => ?_) (fun c78 => ?_)
          · replace h := ineg c78 h
            refine lv_bipush (v := 100) C.1 C.2.1 dX12_walker_85 (by decide) ?_
            refine lv_aload_n C.1 C.2.1 dX12_walker_87 rfl (lv_at hl 0 rfl) ?_
            refine lv_iload_n C.1 C.2.1 dX12_walker_88 rfl (lv_at hl 1 rfl) ?_
            refine lv_iconst (v := 3) C.1 C.2.1 dX12_walker_89 (by decide) ?_
            obtain ⟨r90, e90, h⟩ := bnd h
            refine afI X (runV C G X q_X12_ofWalker k_1915 kp_60 k_1913 (rcX12 G X kd_399) (c_X12_ofWalker l E e90) rfl hl.1 rfl (Nat.le_of_ble_eq_true rfl) ⟨Nat.le_of_ble_eq_true rfl, Nat.le_of_ble_eq_true rfl⟩ ⟨Nat.le_of_ble_eq_true rfl, Nat.le_of_ble_eq_true rfl⟩ dX12_walker_90) (fun H locs X => ?_)
            refine lv_imul C.1 C.2.1 dX12_walker_93 ?_
            refine lv_aload_n C.1 C.2.1 dX12_walker_94 rfl (lv_at hl 0 rfl) ?_
            obtain ⟨r95, e95, h⟩ := bnd h
            refine afI X (runV C G X q_X12_litOfAll k_1994 kp_76 k_1992 (rcX12 G X kd_399) (c_X12_litOfAll l E e95) rfl hl.1 rfl (Nat.le_of_ble_eq_true rfl) ⟨Nat.le_of_ble_eq_true rfl, Nat.le_of_ble_eq_true rfl⟩ ⟨Nat.le_of_ble_eq_true rfl, Nat.le_of_ble_eq_true rfl⟩ dX12_walker_95) (fun H locs X => ?_)
            obtain ⟨u98, z98, h⟩ := bnd h
            refine lv_idiv C.1 C.2.1 dX12_walker_98 (gz_s z98) ?_
            rw [← Option.some.inj h]
            exact rtI C X dX12_walker_99
          · replace h := ipos c78 h
            refine lv_iconst (v := 0) C.1 C.2.1 dX12_walker_81 (by decide) ?_
            refine lv_goto (tgt := 99) C.1 C.2.1 dX12_walker_82 (by decide) ?_
            rw [← Option.some.inj h]
            exact rtI C X dX12_walker_99
        · replace h := ipos c65 h
          refine lv_aload_n C.1 C.2.1 dX12_walker_68 rfl (lv_at hl 0 rfl) ?_
          refine lv_iload_n C.1 C.2.1 dX12_walker_69 rfl (lv_at hl 1 rfl) ?_
          obtain ⟨r70, σ70, e70, h⟩ := bnd2 h
          refine afI (r0 := r70) (σ' := σ70) X (runV C G X q_X12_turnOf k_1985 kp_74 k_1983 (rcX12 G X kd_399) (c_X12_turnOf l E e70) rfl hl.1 rfl (Nat.le_of_ble_eq_true rfl) ⟨Nat.le_of_ble_eq_true rfl, Nat.le_of_ble_eq_true rfl⟩ ⟨Nat.le_of_ble_eq_true rfl, Nat.le_of_ble_eq_true rfl⟩ dX12_walker_70) (fun H locs X => ?_)
          rw [← Option.some.inj h]
          exact rtI C X dX12_walker_73
      · replace h := ipos c54 h
        refine lv_aload_n C.1 C.2.1 dX12_walker_57 rfl (lv_at hl 0 rfl) ?_
        refine lv_iload_n C.1 C.2.1 dX12_walker_58 rfl (lv_at hl 1 rfl) ?_
        obtain ⟨r59, σ59, e59, h⟩ := bnd2 h
        refine afI (r0 := r59) (σ' := σ59) X (runV C G X q_X12_tapersOf k_1981 kp_73 k_1979 (rcX12 G X kd_399) (c_X12_tapersOf l E e59) rfl hl.1 rfl (Nat.le_of_ble_eq_true rfl) ⟨Nat.le_of_ble_eq_true rfl, Nat.le_of_ble_eq_true rfl⟩ ⟨Nat.le_of_ble_eq_true rfl, Nat.le_of_ble_eq_true rfl⟩ dX12_walker_59) (fun H locs X => ?_)
        rw [← Option.some.inj h]
        exact rtI C X dX12_walker_62
    · replace h := ineg c42 h
      refine lv_aload_n C.1 C.2.1 dX12_walker_45 rfl (lv_at hl 0 rfl) ?_
      refine lv_iload_n C.1 C.2.1 dX12_walker_46 rfl (lv_at hl 1 rfl) ?_
      refine lv_iload_n C.1 C.2.1 dX12_walker_47 rfl (lv_at hl 2 rfl) ?_
      obtain ⟨r48, e48, h⟩ := bnd h
      refine afI X (runV C G X q_X12_ofWalker k_1915 kp_60 k_1913 (rcX12 G X kd_399) (c_X12_ofWalker l E e48) rfl hl.1 rfl (Nat.le_of_ble_eq_true rfl) ⟨Nat.le_of_ble_eq_true rfl, Nat.le_of_ble_eq_true rfl⟩ ⟨Nat.le_of_ble_eq_true rfl, Nat.le_of_ble_eq_true rfl⟩ dX12_walker_48) (fun H locs X => ?_)
      rw [← Option.some.inj h]
      exact rtI C X dX12_walker_51
  · replace h := ineg c35 h
    refine lv_iconst (v := 0) C.1 C.2.1 dX12_walker_38 (by decide) ?_
    rw [← Option.some.inj h]
    exact rtI C X dX12_walker_39

set_option maxRecDepth 20000 in
theorem w_X12_walker {r : (Int32 × Mem)} {σ : Mem} {x1 : Int32} {x2 : Int32} {ls : Array Slot} {H : Heap} {locs : List Loc} (C : Cx p s m args meth c cX12_walker (some .int) 3 RX12) (G : Gf E s) (X : Hx E σ s H locs) (hl : lv_has ls 3 [(0, .ref (gB E + 399)), (1, .int x1), (2, .int x2)]) (h : X12_walker x1 x2 σ = some r) : W p l e (RM 207) s m args below meth c H locs 0 0 (QI E below args s r.1 r.2) (F0 m 0 ls []) := by
  rw [X12_walker] at h
  refine lv_aload_n C.1 C.2.1 dX12_walker_0 rfl (lv_at hl 0 rfl) ?_
  refine lv_aload_n C.1 C.2.1 dX12_walker_1 rfl (lv_at hl 0 rfl) ?_
  refine lv_iload_n C.1 C.2.1 dX12_walker_2 rfl (lv_at hl 1 rfl) ?_
  obtain ⟨r3, e3, h⟩ := bnd h
  refine afI X (runV C G X q_X12_isWalker k_1977 kp_72 k_1975 (rcX12 G X kd_399) (c_X12_isWalker l E e3) rfl hl.1 rfl (Nat.le_of_ble_eq_true rfl) ⟨Nat.le_of_ble_eq_true rfl, Nat.le_of_ble_eq_true rfl⟩ ⟨Nat.le_of_ble_eq_true rfl, Nat.le_of_ble_eq_true rfl⟩ dX12_walker_3) (fun H locs X => ?_)
  refine lv_if_ne (tgt := 13) C.1 C.2.1 dX12_walker_6 (by decide) (fun c6 => ?_) (fun c6 => ?_)
  · replace h := ineg c6 h
    refine lv_iload_n C.1 C.2.1 dX12_walker_13 rfl (lv_at hl 2 rfl) ?_
    refine lv_iconst (v := 0) C.1 C.2.1 dX12_walker_14 (by decide) ?_
    refine lv_bipush (v := 6) C.1 C.2.1 dX12_walker_15 (by decide) ?_
    obtain ⟨r17, e17, h⟩ := bnd h
    refine afI X (runS C G X q_X12_isIn k_1734 k_1733 (c_X12_isIn l E e17) rfl hl.1 rfl (Nat.le_of_ble_eq_true rfl) ⟨Nat.le_of_ble_eq_true rfl, Nat.le_of_ble_eq_true rfl⟩ ⟨Nat.le_of_ble_eq_true rfl, Nat.le_of_ble_eq_true rfl⟩ dX12_walker_17) (fun H locs X => ?_)
    refine lv_if_ne (tgt := 27) C.1 C.2.1 dX12_walker_20 (by decide) (fun c20 => ?_) (fun c20 => ?_)
    · replace h := ineg c20 h
      refine lv_iconst (v := 0) C.1 C.2.1 dX12_walker_27 (by decide) ?_
      exact w_X12_walker_28 C G X (lv_sub hl [0, 1, 2] rfl) h
    · replace h := ipos c20 h
      refine lv_iconst (v := 2) C.1 C.2.1 dX12_walker_23 (by decide) ?_
      refine lv_goto (tgt := 28) C.1 C.2.1 dX12_walker_24 (by decide) ?_
      exact w_X12_walker_28 C G X (lv_sub hl [0, 1, 2] rfl) h
  · replace h := ipos c6 h
    refine lv_iconst (v := 1) C.1 C.2.1 dX12_walker_9 (by decide) ?_
    refine lv_goto (tgt := 28) C.1 C.2.1 dX12_walker_10 (by decide) ?_
    exact w_X12_walker_28 C G X (lv_sub hl [0, 1, 2] rfl) h

theorem c_X12_walker (l : Launch) (E : GE) {σ : Mem} {x1 : Int32} {x2 : Int32} {r : (Int32 × Mem)} (h : X12_walker x1 x2 σ = some r) : CtI l E yX12_walker cX12_walker 3 .int 207 [.ref (gB E + 399), .int x1, .int x2] σ r.1 r.2 := by
  refine Met.ofW (cc := cX12_walker) (maxL := 3) (ret := (some .int)) (by decide) rfl ?_
  intro p e s m args below meth c s₁ B hml hv
  obtain ⟨rfl, G, X⟩ := start hv
  have C := cxof B hml
  have hl := lv_entry [.ref (gB E + 399), .int x1, .int x2] (n := 3) (Nat.le_of_ble_eq_true rfl)
  rw [lg_entry_eq]
  generalize (lg_sl [.ref (gB E + 399), .int x1, .int x2] ++ List.replicate (3 - (lg_sl [.ref (gB E + 399), .int x1, .int x2]).length) Slot.unset).toArray = ls at hl ⊢
  exact w_X12_walker C G X hl h

set_option maxRecDepth 20000 in
theorem w_X12_areTwo {r : Mem} {σ : Mem} {x1 : Int32} {x2 : Int32} {ls : Array Slot} {H : Heap} {locs : List Loc} (C : Cx p s m args meth c cX12_areTwo none 3 RX12) (G : Gf E s) (X : Hx E σ s H locs) (hl : lv_has ls 3 [(0, .ref (gB E + 399)), (1, .int x1), (2, .int x2)]) (h : X12_areTwo x1 x2 σ = some r) : W p l e (RM 3) s m args below meth c H locs 0 0 (QV E below args s r) (F0 m 0 ls []) := by
  rw [X12_areTwo] at h
  refine lv_aload_n C.1 C.2.1 dX12_areTwo_0 rfl (lv_at hl 0 rfl) ?_
  refine lv_aload_n C.1 C.2.1 dX12_areTwo_1 rfl (lv_at hl 0 rfl) ?_
  refine lv_iload_n C.1 C.2.1 dX12_areTwo_2 rfl (lv_at hl 1 rfl) ?_
  obtain ⟨r3, e3, h⟩ := bnd h
  refine afI X (runV C G X q_X12_isWalker k_1977 kp_72 k_1975 (rcX12 G X kd_399) (c_X12_isWalker l E e3) rfl hl.1 rfl (Nat.le_of_ble_eq_true rfl) ⟨Nat.le_of_ble_eq_true rfl, Nat.le_of_ble_eq_true rfl⟩ ⟨Nat.le_of_ble_eq_true rfl, Nat.le_of_ble_eq_true rfl⟩ dX12_areTwo_3) (fun H locs X => ?_)
  refine lv_if_eq (tgt := 17) C.1 C.2.1 dX12_areTwo_6 (by decide) (fun c6 => ?_) (fun c6 => ?_)
  · replace h := ipos c6 h
    refine lv_iconst (v := 1) C.1 C.2.1 dX12_areTwo_17 (by decide) ?_
    refine lv_goto (tgt := 31) C.1 C.2.1 dX12_areTwo_18 (by decide) ?_
    obtain ⟨σ31, e31, h⟩ := bnd h
    refine pfX12 C G X (k := 399) kd_399 0 (x := (1 : Int32)) (ty := .int) rfl rfl (Nat.le_of_ble_eq_true rfl) (by decide) k_1651 rfl rfl (by decide +kernel) rfl rfl dX12_areTwo_31 (fun H locs X => ?_)
    replace X := pu_x e31 X
    rw [← Option.some.inj h]
    exact rtV C X dX12_areTwo_34
  · replace h := ineg c6 h
    refine lv_aload_n C.1 C.2.1 dX12_areTwo_9 rfl (lv_at hl 0 rfl) ?_
    refine lv_iload_n C.1 C.2.1 dX12_areTwo_10 rfl (lv_at hl 2 rfl) ?_
    obtain ⟨r11, e11, h⟩ := bnd h
    refine afI X (runV C G X q_X12_isWalker k_1977 kp_72 k_1975 (rcX12 G X kd_399) (c_X12_isWalker l E e11) rfl hl.1 rfl (Nat.le_of_ble_eq_true rfl) ⟨Nat.le_of_ble_eq_true rfl, Nat.le_of_ble_eq_true rfl⟩ ⟨Nat.le_of_ble_eq_true rfl, Nat.le_of_ble_eq_true rfl⟩ dX12_areTwo_11) (fun H locs X => ?_)
    refine lv_if_ne (tgt := 21) C.1 C.2.1 dX12_areTwo_14 (by decide) (fun c14 => ?_) (fun c14 => ?_)
    · replace h := ineg c14 h
      refine lv_iload_n C.1 C.2.1 dX12_areTwo_21 rfl (lv_at hl 1 rfl) ?_
      refine lv_iload_n C.1 C.2.1 dX12_areTwo_22 rfl (lv_at hl 2 rfl) ?_
      refine lv_icmp_ne (tgt := 30) C.1 C.2.1 dX12_areTwo_23 (by decide) (fun c23 => ?_) (fun c23 => ?_)
      · replace h := ineg c23 h
        refine lv_iconst (v := 0) C.1 C.2.1 dX12_areTwo_30 (by decide) ?_
        obtain ⟨σ31, e31, h⟩ := bnd h
        refine pfX12 C G X (k := 399) kd_399 0 (x := (0 : Int32)) (ty := .int) rfl rfl (Nat.le_of_ble_eq_true rfl) (by decide) k_1651 rfl rfl (by decide +kernel) rfl rfl dX12_areTwo_31 (fun H locs X => ?_)
        replace X := pu_x e31 X
        rw [← Option.some.inj h]
        exact rtV C X dX12_areTwo_34
      · replace h := ipos c23 h
        refine lv_iconst (v := 2) C.1 C.2.1 dX12_areTwo_26 (by decide) ?_
        refine lv_goto (tgt := 31) C.1 C.2.1 dX12_areTwo_27 (by decide) ?_
        obtain ⟨σ31, e31, h⟩ := bnd h
        refine pfX12 C G X (k := 399) kd_399 0 (x := (2 : Int32)) (ty := .int) rfl rfl (Nat.le_of_ble_eq_true rfl) (by decide) k_1651 rfl rfl (by decide +kernel) rfl rfl dX12_areTwo_31 (fun H locs X => ?_)
        replace X := pu_x e31 X
        rw [← Option.some.inj h]
        exact rtV C X dX12_areTwo_34
    · replace h := ipos c14 h
      refine lv_iconst (v := 1) C.1 C.2.1 dX12_areTwo_17 (by decide) ?_
      refine lv_goto (tgt := 31) C.1 C.2.1 dX12_areTwo_18 (by decide) ?_
      obtain ⟨σ31, e31, h⟩ := bnd h
      refine pfX12 C G X (k := 399) kd_399 0 (x := (1 : Int32)) (ty := .int) rfl rfl (Nat.le_of_ble_eq_true rfl) (by decide) k_1651 rfl rfl (by decide +kernel) rfl rfl dX12_areTwo_31 (fun H locs X => ?_)
      replace X := pu_x e31 X
      rw [← Option.some.inj h]
      exact rtV C X dX12_areTwo_34

theorem c_X12_areTwo (l : Launch) (E : GE) {σ : Mem} {x1 : Int32} {x2 : Int32} {r : Mem} (h : X12_areTwo x1 x2 σ = some r) : CtV l E yX12_areTwo cX12_areTwo 3 3 [.ref (gB E + 399), .int x1, .int x2] σ r := by
  refine Met.ofW (cc := cX12_areTwo) (maxL := 3) (ret := none) (by decide) rfl ?_
  intro p e s m args below meth c s₁ B hml hv
  obtain ⟨rfl, G, X⟩ := start hv
  have C := cxof B hml
  have hl := lv_entry [.ref (gB E + 399), .int x1, .int x2] (n := 3) (Nat.le_of_ble_eq_true rfl)
  rw [lg_entry_eq]
  generalize (lg_sl [.ref (gB E + 399), .int x1, .int x2] ++ List.replicate (3 - (lg_sl [.ref (gB E + 399), .int x1, .int x2]).length) Slot.unset).toArray = ls at hl ⊢
  exact w_X12_areTwo C G X hl h

set_option maxRecDepth 20000 in
theorem w_X12_likes {r : (Int32 × Mem)} {σ : Mem} {x1 : Int32} {x2 : Int32} {ls : Array Slot} {H : Heap} {locs : List Loc} (C : Cx p s m args meth c cX12_likes (some .int) 3 RX12) (G : Gf E s) (X : Hx E σ s H locs) (hl : lv_has ls 3 [(0, .ref (gB E + 399)), (1, .int x1), (2, .int x2)]) (h : X12_likes x1 x2 σ = some r) : W p l e (RM 4) s m args below meth c H locs 0 0 (QI E below args s r.1 r.2) (F0 m 0 ls []) := by
  rw [X12_likes] at h
  refine lv_aload_n C.1 C.2.1 dX12_likes_0 rfl (lv_at hl 0 rfl) ?_
  refine lv_iload_n C.1 C.2.1 dX12_likes_1 rfl (lv_at hl 1 rfl) ?_
  refine lv_iload_n C.1 C.2.1 dX12_likes_2 rfl (lv_at hl 2 rfl) ?_
  obtain ⟨σ3, e3, h⟩ := bnd h
  refine afV X (runV C G X q_X12_areTwo k_2002 kp_77 k_2000 (rcX12 G X kd_399) (c_X12_areTwo l E e3) rfl hl.1 rfl (Nat.le_of_ble_eq_true rfl) ⟨Nat.le_of_ble_eq_true rfl, Nat.le_of_ble_eq_true rfl⟩ ⟨Nat.le_of_ble_eq_true rfl, Nat.le_of_ble_eq_true rfl⟩ dX12_likes_3) (fun H locs X => ?_)
  refine lv_aload_n C.1 C.2.1 dX12_likes_6 rfl (lv_at hl 0 rfl) ?_
  refine gfX12 C G X (k := 399) kd_399 0 (v := .int (σ3 399 0)) rfl rfl (by decide) k_1651 rfl dX12_likes_7 ?_
  refine lv_if_le (tgt := 17) C.1 C.2.1 dX12_likes_10 (by decide) (fun c10 => ?_) (fun c10 => ?_)
  · replace h := ipos c10 h
    refine lv_aload_n C.1 C.2.1 dX12_likes_17 rfl (lv_at hl 0 rfl) ?_
    refine lv_iload_n C.1 C.2.1 dX12_likes_18 rfl (lv_at hl 1 rfl) ?_
    refine lv_iload_n C.1 C.2.1 dX12_likes_19 rfl (lv_at hl 2 rfl) ?_
    obtain ⟨r20, e20, h⟩ := bnd h
    refine afI X (runV C G X q_X12_liking k_1907 kp_58 k_1905 (rcX12 G X kd_399) (c_X12_liking l E e20) rfl hl.1 rfl (Nat.le_of_ble_eq_true rfl) ⟨Nat.le_of_ble_eq_true rfl, Nat.le_of_ble_eq_true rfl⟩ ⟨Nat.le_of_ble_eq_true rfl, Nat.le_of_ble_eq_true rfl⟩ dX12_likes_20) (fun H locs X => ?_)
    rw [← Option.some.inj h]
    exact rtI C X dX12_likes_23
  · replace h := ineg c10 h
    refine lv_iconst (v := 0) C.1 C.2.1 dX12_likes_13 (by decide) ?_
    refine lv_goto (tgt := 23) C.1 C.2.1 dX12_likes_14 (by decide) ?_
    rw [← Option.some.inj h]
    exact rtI C X dX12_likes_23

theorem c_X12_likes (l : Launch) (E : GE) {σ : Mem} {x1 : Int32} {x2 : Int32} {r : (Int32 × Mem)} (h : X12_likes x1 x2 σ = some r) : CtI l E yX12_likes cX12_likes 3 .int 4 [.ref (gB E + 399), .int x1, .int x2] σ r.1 r.2 := by
  refine Met.ofW (cc := cX12_likes) (maxL := 3) (ret := (some .int)) (by decide) rfl ?_
  intro p e s m args below meth c s₁ B hml hv
  obtain ⟨rfl, G, X⟩ := start hv
  have C := cxof B hml
  have hl := lv_entry [.ref (gB E + 399), .int x1, .int x2] (n := 3) (Nat.le_of_ble_eq_true rfl)
  rw [lg_entry_eq]
  generalize (lg_sl [.ref (gB E + 399), .int x1, .int x2] ++ List.replicate (3 - (lg_sl [.ref (gB E + 399), .int x1, .int x2]).length) Slot.unset).toArray = ls at hl ⊢
  exact w_X12_likes C G X hl h

set_option maxRecDepth 20000 in
theorem w_X12_will_22 {r : (Int32 × Mem)} {σ : Mem} {x1 : Int32} {x2 : Int32} {y1 : Int32} {ls : Array Slot} {H : Heap} {locs : List Loc} (C : Cx p s m args meth c cX12_will (some .int) 3 RX12) (G : Gf E s) (X : Hx E σ s H locs) (hl : lv_has ls 3 [(0, .ref (gB E + 399)), (1, .int x1), (2, .int x2)]) (h : X12_will_22 x1 x2 y1 σ = some r) : W p l e (RM 204) s m args below meth c H locs 0 0 (QI E below args s r.1 r.2) (F0 m 22 ls [.int y1, .ref (gB E + 399)]) := by
  rw [X12_will_22] at h
  obtain ⟨σ22, e22, h⟩ := bnd h
  refine pfX12 C G X (k := 399) kd_399 0 (x := y1) (ty := .int) rfl rfl (Nat.le_of_ble_eq_true rfl) (by decide) k_1651 rfl rfl (by decide +kernel) rfl rfl dX12_will_22 (fun H locs X => ?_)
  replace X := pu_x e22 X
  refine lv_aload_n C.1 C.2.1 dX12_will_25 rfl (lv_at hl 0 rfl) ?_
  refine gfX12 C G X (k := 399) kd_399 0 (v := .int (σ22 399 0)) rfl rfl (by decide) k_1651 rfl dX12_will_26 ?_
  refine lv_if_le (tgt := 34) C.1 C.2.1 dX12_will_29 (by decide) (fun c29 => ?_) (fun c29 => ?_)
  · replace h := ipos c29 h
    refine lv_aload_n C.1 C.2.1 dX12_will_34 rfl (lv_at hl 0 rfl) ?_
    refine lv_iload_n C.1 C.2.1 dX12_will_35 rfl (lv_at hl 1 rfl) ?_
    refine lv_iload_n C.1 C.2.1 dX12_will_36 rfl (lv_at hl 2 rfl) ?_
    refine lv_aload_n C.1 C.2.1 dX12_will_37 rfl (lv_at hl 0 rfl) ?_
    refine lv_iload_n C.1 C.2.1 dX12_will_38 rfl (lv_at hl 1 rfl) ?_
    refine lv_iload_n C.1 C.2.1 dX12_will_39 rfl (lv_at hl 2 rfl) ?_
    obtain ⟨r40, e40, h⟩ := bnd h
    refine afI X (runV C G X q_X12_likesOwner k_1903 kp_57 k_1901 (rcX12 G X kd_399) (c_X12_likesOwner l E e40) rfl hl.1 rfl (Nat.le_of_ble_eq_true rfl) ⟨Nat.le_of_ble_eq_true rfl, Nat.le_of_ble_eq_true rfl⟩ ⟨Nat.le_of_ble_eq_true rfl, Nat.le_of_ble_eq_true rfl⟩ dX12_will_40) (fun H locs X => ?_)
    obtain ⟨σ43, e43, h⟩ := bnd h
    refine afV X (runV C G X q_X12_asks k_1919 kp_61 k_1917 (rcX12 G X kd_399) (c_X12_asks l E e43) rfl hl.1 rfl (Nat.le_of_ble_eq_true rfl) ⟨Nat.le_of_ble_eq_true rfl, Nat.le_of_ble_eq_true rfl⟩ ⟨Nat.le_of_ble_eq_true rfl, Nat.le_of_ble_eq_true rfl⟩ dX12_will_43) (fun H locs X => ?_)
    refine lv_aload_n C.1 C.2.1 dX12_will_46 rfl (lv_at hl 0 rfl) ?_
    refine gfX12 C G X (k := 399) kd_399 16 (v := .int (σ43 399 16)) rfl rfl (by decide) k_1667 rfl dX12_will_47 ?_
    rw [← Option.some.inj h]
    exact rtI C X dX12_will_50
  · replace h := ineg c29 h
    refine lv_iconst (v := 0) C.1 C.2.1 dX12_will_32 (by decide) ?_
    rw [← Option.some.inj h]
    exact rtI C X dX12_will_33

set_option maxRecDepth 20000 in
theorem w_X12_will_17 {r : (Int32 × Mem)} {σ : Mem} {x1 : Int32} {x2 : Int32} {ls : Array Slot} {H : Heap} {locs : List Loc} (C : Cx p s m args meth c cX12_will (some .int) 3 RX12) (G : Gf E s) (X : Hx E σ s H locs) (hl : lv_has ls 3 [(0, .ref (gB E + 399)), (1, .int x1), (2, .int x2)]) (h : X12_will_17 x1 x2 σ = some r) : W p l e (RM 204) s m args below meth c H locs 0 0 (QI E below args s r.1 r.2) (F0 m 17 ls [.ref (gB E + 399)]) := by
  rw [X12_will_17] at h
  refine lv_iconst (v := 1) C.1 C.2.1 dX12_will_17 (by decide) ?_
  refine lv_goto (tgt := 22) C.1 C.2.1 dX12_will_18 (by decide) ?_
  exact w_X12_will_22 C G X (lv_sub hl [0, 1, 2] rfl) h

set_option maxRecDepth 20000 in
theorem w_X12_will {r : (Int32 × Mem)} {σ : Mem} {x1 : Int32} {x2 : Int32} {ls : Array Slot} {H : Heap} {locs : List Loc} (C : Cx p s m args meth c cX12_will (some .int) 3 RX12) (G : Gf E s) (X : Hx E σ s H locs) (hl : lv_has ls 3 [(0, .ref (gB E + 399)), (1, .int x1), (2, .int x2)]) (h : X12_will x1 x2 σ = some r) : W p l e (RM 204) s m args below meth c H locs 0 0 (QI E below args s r.1 r.2) (F0 m 0 ls []) := by
  rw [X12_will] at h
  refine lv_aload_n C.1 C.2.1 dX12_will_0 rfl (lv_at hl 0 rfl) ?_
  refine lv_aload_n C.1 C.2.1 dX12_will_1 rfl (lv_at hl 0 rfl) ?_
  refine lv_iload_n C.1 C.2.1 dX12_will_2 rfl (lv_at hl 1 rfl) ?_
  obtain ⟨r3, e3, h⟩ := bnd h
  refine afI X (runV C G X q_X12_isWalker k_1977 kp_72 k_1975 (rcX12 G X kd_399) (c_X12_isWalker l E e3) rfl hl.1 rfl (Nat.le_of_ble_eq_true rfl) ⟨Nat.le_of_ble_eq_true rfl, Nat.le_of_ble_eq_true rfl⟩ ⟨Nat.le_of_ble_eq_true rfl, Nat.le_of_ble_eq_true rfl⟩ dX12_will_3) (fun H locs X => ?_)
  refine lv_if_eq (tgt := 17) C.1 C.2.1 dX12_will_6 (by decide) (fun c6 => ?_) (fun c6 => ?_)
  · replace h := ipos c6 h
    exact w_X12_will_17 C G X (lv_sub hl [0, 1, 2] rfl) h
  · replace h := ineg c6 h
    refine lv_aload_n C.1 C.2.1 dX12_will_9 rfl (lv_at hl 0 rfl) ?_
    refine lv_iload_n C.1 C.2.1 dX12_will_10 rfl (lv_at hl 2 rfl) ?_
    obtain ⟨r11, e11, h⟩ := bnd h
    refine afI X (runV C G X q_X12_isPane k_1891 kp_54 k_1889 (rcX12 G X kd_399) (c_X12_isPane l E e11) rfl hl.1 rfl (Nat.le_of_ble_eq_true rfl) ⟨Nat.le_of_ble_eq_true rfl, Nat.le_of_ble_eq_true rfl⟩ ⟨Nat.le_of_ble_eq_true rfl, Nat.le_of_ble_eq_true rfl⟩ dX12_will_11) (fun H locs X => ?_)
    refine lv_if_ne (tgt := 21) C.1 C.2.1 dX12_will_14 (by decide) (fun c14 => ?_) (fun c14 => ?_)
    · replace h := ineg c14 h
      refine lv_iconst (v := 0) C.1 C.2.1 dX12_will_21 (by decide) ?_
      exact w_X12_will_22 C G X (lv_sub hl [0, 1, 2] rfl) h
    · replace h := ipos c14 h
      exact w_X12_will_17 C G X (lv_sub hl [0, 1, 2] rfl) h

theorem c_X12_will (l : Launch) (E : GE) {σ : Mem} {x1 : Int32} {x2 : Int32} {r : (Int32 × Mem)} (h : X12_will x1 x2 σ = some r) : CtI l E yX12_will cX12_will 3 .int 204 [.ref (gB E + 399), .int x1, .int x2] σ r.1 r.2 := by
  refine Met.ofW (cc := cX12_will) (maxL := 3) (ret := (some .int)) (by decide) rfl ?_
  intro p e s m args below meth c s₁ B hml hv
  obtain ⟨rfl, G, X⟩ := start hv
  have C := cxof B hml
  have hl := lv_entry [.ref (gB E + 399), .int x1, .int x2] (n := 3) (Nat.le_of_ble_eq_true rfl)
  rw [lg_entry_eq]
  generalize (lg_sl [.ref (gB E + 399), .int x1, .int x2] ++ List.replicate (3 - (lg_sl [.ref (gB E + 399), .int x1, .int x2]).length) Slot.unset).toArray = ls at hl ⊢
  exact w_X12_will C G X hl h

end WALK

def oX4_readAtom_172 (rf_readCondition : Nat → Int32 → Mem → Option (Int32 × Mem)) (rf_readAtom : Nat → Int32 → Mem → Option (Int32 × Mem)) (a1 : Nat) (x4 : Int32) (σ : Mem) : Option (Int32 × Mem) :=
  bd2 (X4_readSum a1 σ) fun r174 σ174 =>
  if r174 = 0 then
    bd (gb (0 : Int32)) fun _ =>
    some ((0 : Int32), σ174)
  else
    if x4 = 0 then
      bd (X3_emit a1 (-3 : Int32) σ174) fun σ195 =>
      bd (gb (1 : Int32)) fun _ =>
      some ((1 : Int32), σ195)
    else
      bd (X3_emit a1 (-2 : Int32) σ174) fun σ195 =>
      bd (gb (1 : Int32)) fun _ =>
      some ((1 : Int32), σ195)
def oX4_readAtom_41 (rf_readCondition : Nat → Int32 → Mem → Option (Int32 × Mem)) (rf_readAtom : Nat → Int32 → Mem → Option (Int32 × Mem)) (a1 : Nat) (x2 : Int32) (σ : Mem) : Option (Int32 × Mem) :=
  bd2 (X10_take (5 : Int32) σ) fun r45 σ45 =>
  if r45 = 0 then
    bd2 (X10_take (30 : Int32) σ45) fun r82 σ82 =>
    if r82 = 0 then
      bd (X10_term σ82) fun r108 =>
      bd (gt r108) fun _ =>
      bd (X9_isYesOrNo σ82 r108) fun r111 =>
      if r111 = 0 then
        bd2 (X4_readSum a1 σ82) fun r140 σ140 =>
        if r140 = 0 then
          bd (gb (0 : Int32)) fun _ =>
          some ((0 : Int32), σ140)
        else
          bd2 (X10_take (8 : Int32) σ140) fun r152 σ152 =>
          if r152 = 0 then
            bd2 (X10_need (9 : Int32) σ152) fun r166 σ166 =>
            if r166 = 0 then
              bd (gb (0 : Int32)) fun _ =>
              some ((0 : Int32), σ166)
            else
              oX4_readAtom_172 rf_readCondition rf_readAtom a1 r152 σ166
          else
            oX4_readAtom_172 rf_readCondition rf_readAtom a1 r152 σ152
      else
        bd (X10_term σ82) fun r122 =>
        bd (tFa r122) fun r125 =>
        bd (X3_emit a1 ((1000 : Int32) + r125) σ82) fun σ129 =>
        bd (X10_step σ129) fun σ133 =>
        bd (gb (1 : Int32)) fun _ =>
        some ((1 : Int32), σ133)
    else
      bd2 (rf_readAtom a1 (x2 + (1 : Int32)) σ82) fun r93 σ93 =>
      bd (X3_emit a1 (-4 : Int32) σ93) fun σ101 =>
      bd (gb r93) fun _ =>
      some (r93, σ101)
  else
    bd2 (rf_readCondition a1 (x2 + (1 : Int32)) σ45) fun r56 σ56 =>
    if r56 = 0 then
      bd (gb (0 : Int32)) fun _ =>
      some ((0 : Int32), σ56)
    else
      bd2 (X10_need (6 : Int32) σ56) fun r66 σ66 =>
      if r66 = 0 then
        bd (gb (0 : Int32)) fun _ =>
        some ((0 : Int32), σ66)
      else
        bd (gb (1 : Int32)) fun _ =>
        some ((1 : Int32), σ66)
def oX4_readAtom_25 (rf_readCondition : Nat → Int32 → Mem → Option (Int32 × Mem)) (rf_readAtom : Nat → Int32 → Mem → Option (Int32 × Mem)) (a1 : Nat) (x2 : Int32) (y0 : Int32) (σ : Mem) : Option (Int32 × Mem) :=
  if y0 = 0 then
    oX4_readAtom_41 rf_readCondition rf_readAtom a1 x2 σ
  else
    if x2 < (6 : Int32) then
      oX4_readAtom_41 rf_readCondition rf_readAtom a1 x2 σ
    else
      bd2 (X10_wrong σ) fun r37 σ37 =>
      bd (gb r37) fun _ =>
      some (r37, σ37)
def oX4_readAtom_20 (rf_readCondition : Nat → Int32 → Mem → Option (Int32 × Mem)) (rf_readAtom : Nat → Int32 → Mem → Option (Int32 × Mem)) (a1 : Nat) (x2 : Int32) (σ : Mem) : Option (Int32 × Mem) :=
  oX4_readAtom_25 rf_readCondition rf_readAtom a1 x2 (1 : Int32) σ
def oX4_readAtom (rf_readCondition : Nat → Int32 → Mem → Option (Int32 × Mem)) (rf_readAtom : Nat → Int32 → Mem → Option (Int32 × Mem)) (a1 : Nat) (x2 : Int32) (σ : Mem) : Option (Int32 × Mem) :=
  bd (X10_is σ (30 : Int32)) fun r4 =>
  if r4 = 0 then
    bd (X10_is σ (5 : Int32)) fun r14 =>
    if r14 = 0 then
      oX4_readAtom_25 rf_readCondition rf_readAtom a1 x2 (0 : Int32) σ
    else
      oX4_readAtom_20 rf_readCondition rf_readAtom a1 x2 σ
  else
    oX4_readAtom_20 rf_readCondition rf_readAtom a1 x2 σ
def oX4_readCondition_71 (rf_readAtom : Nat → Int32 → Mem → Option (Int32 × Mem)) (rc2 : Nat → Int32 → Int32 → Mem → Option (Int32 × Mem)) (a1 : Nat) (x2 : Int32) (x3 : Int32) (σ : Mem) : Option (Int32 × Mem) :=
  bd2 (X10_take (32 : Int32) σ) fun r75 σ75 =>
  if r75 = 0 then
    bd (gb (1 : Int32)) fun _ =>
    some ((1 : Int32), σ75)
  else
    rc2 a1 x2 (x3 + 1) σ75
def oX4_readCondition_61 (rf_readAtom : Nat → Int32 → Mem → Option (Int32 × Mem)) (rc2 : Nat → Int32 → Int32 → Mem → Option (Int32 × Mem)) (a1 : Nat) (x2 : Int32) (x3 : Int32) (σ : Mem) : Option (Int32 × Mem) :=
  if x3 ≤ 0 then
    oX4_readCondition_71 rf_readAtom rc2 a1 x2 x3 σ
  else
    bd (X3_emit a1 (-6 : Int32) σ) fun σ68 =>
    oX4_readCondition_71 rf_readAtom rc2 a1 x2 x3 σ68
def oX4_readCondition_42 (rf_readAtom : Nat → Int32 → Mem → Option (Int32 × Mem)) (rc2 : Nat → Int32 → Int32 → Mem → Option (Int32 × Mem)) (rc12 : Nat → Int32 → Int32 → Int32 → Mem → Option (Int32 × Mem)) (a1 : Nat) (x2 : Int32) (x3 : Int32) (x4 : Int32) (σ : Mem) : Option (Int32 × Mem) :=
  bd2 (X10_take (31 : Int32) σ) fun r46 σ46 =>
  if r46 = 0 then
    oX4_readCondition_61 rf_readAtom rc2 a1 x2 x3 σ46
  else
    rc12 a1 x2 x3 (x4 + 1) σ46
def oX4_readCondition_12 (rf_readAtom : Nat → Int32 → Mem → Option (Int32 × Mem)) (rc2 : Nat → Int32 → Int32 → Mem → Option (Int32 × Mem)) : Nat → Nat → Int32 → Int32 → Int32 → Mem → Option (Int32 × Mem)
  | 0, _, _, _, _, _ => none
  | f + 1, a1, x2, x3, x4, σ =>
    if (400 : Int32) ≤ x4 then
      oX4_readCondition_61 rf_readAtom rc2 a1 x2 x3 σ
    else
      bd2 (rf_readAtom a1 x2 σ) fun r23 σ23 =>
      if r23 = 0 then
        bd (gb (0 : Int32)) fun _ =>
        some ((0 : Int32), σ23)
      else
        if x4 ≤ 0 then
          oX4_readCondition_42 rf_readAtom rc2 (oX4_readCondition_12 rf_readAtom rc2 f) a1 x2 x3 x4 σ23
        else
          bd (X3_emit a1 (-5 : Int32) σ23) fun σ39 =>
          oX4_readCondition_42 rf_readAtom rc2 (oX4_readCondition_12 rf_readAtom rc2 f) a1 x2 x3 x4 σ39
def oX4_readCondition_2 (rf_readAtom : Nat → Int32 → Mem → Option (Int32 × Mem)) : Nat → Nat → Int32 → Int32 → Mem → Option (Int32 × Mem)
  | 0, _, _, _, _ => none
  | f + 1, a1, x2, x3, σ =>
    if (400 : Int32) ≤ x3 then
      bd (gb (1 : Int32)) fun _ =>
      some ((1 : Int32), σ)
    else
      oX4_readCondition_12 rf_readAtom (oX4_readCondition_2 rf_readAtom f) FU a1 x2 x3 (0 : Int32) σ
def oX4_readCondition (rf_readAtom : Nat → Int32 → Mem → Option (Int32 × Mem)) (a1 : Nat) (x2 : Int32) (σ : Mem) : Option (Int32 × Mem) :=
  oX4_readCondition_2 rf_readAtom FU a1 x2 (0 : Int32) σ
def rc4 : Nat → (Nat → Int32 → Mem → Option (Int32 × Mem)) × (Nat → Int32 → Mem → Option (Int32 × Mem))
  | 0 => (fun _ _ _ => none, fun _ _ _ => none)
  | d + 1 => (fun a1 x2 σ => oX4_readAtom (rc4 d).2 (rc4 d).1 a1 x2 σ, fun a1 x2 σ => oX4_readCondition (rc4 d).1 a1 x2 σ)
def X4_readAtom (a1 : Nat) (x2 : Int32) (σ : Mem) : Option (Int32 × Mem) := (rc4 40).1 a1 x2 σ
def X4_readCondition (a1 : Nat) (x2 : Int32) (σ : Mem) : Option (Int32 × Mem) := (rc4 40).2 a1 x2 σ
def X3_endLine (a0 : Nat) (σ : Mem) : Option Mem :=
  bd (X6_set (a0 + 5) (σ a0 0) (σ a0 5) σ) fun σ12 =>
  bd (pu σ12 a0 0 ((σ12 a0 0) + (1 : Int32))) fun σ22 =>
  some σ22
def X4_readLine_105 (a1 : Nat) (σ : Mem) : Option (Int32 × Mem) :=
  bd (X3_endLine a1 σ) fun σ106 =>
  bd (gb (1 : Int32)) fun _ =>
  some ((1 : Int32), σ106)
def X4_readLine_81 (a1 : Nat) (b0 : Nat) (y1 : Int32) (y2 : Int32) (σ : Mem) : Option (Int32 × Mem) :=
  bd (X3_beginLine b0 y1 y2 σ) fun σ81 =>
  bd2 (X10_take (29 : Int32) σ81) fun r88 σ88 =>
  if r88 = 0 then
    X4_readLine_105 a1 σ88
  else
    bd2 (X4_readCondition a1 (0 : Int32) σ88) fun r97 σ97 =>
    if r97 = 0 then
      bd (gb (0 : Int32)) fun _ =>
      some ((0 : Int32), σ97)
    else
      X4_readLine_105 a1 σ97
def X4_readLine_69 (a1 : Nat) (t2 : Int32) (b0 : Nat) (y1 : Int32) (σ : Mem) : Option (Int32 × Mem) :=
  bd (gt2 t2 (28 : Int32)) fun _ =>
  if t2 = (28 : Int32) then
    X4_readLine_81 a1 b0 y1 (1 : Int32) σ
  else
    X4_readLine_81 a1 b0 y1 (0 : Int32) σ
def X4_readLine_49 (a1 : Nat) (t2 : Int32) (x3 : Int32) (σ : Mem) : Option (Int32 × Mem) :=
  if 0 ≤ x3 then
    bd (gt2 t2 (26 : Int32)) fun _ =>
    if t2 = (26 : Int32) then
      X4_readLine_69 a1 t2 a1 x3 σ
    else
      X4_readLine_69 a1 t2 a1 (-x3) σ
  else
    bd (gb (0 : Int32)) fun _ =>
    some ((0 : Int32), σ)
def X4_readLine_27 (a1 : Nat) (t2 : Int32) (σ : Mem) : Option (Int32 × Mem) :=
  bd2 (X10_needUpTo (20 : Int32) σ) fun r30 σ30 =>
  X4_readLine_49 a1 t2 r30 σ30
def X4_readLine (a1 : Nat) (σ : Mem) : Option (Int32 × Mem) :=
  bd (X10_term σ) fun r1 =>
  bd2 (X10_take (26 : Int32) σ) fun r11 σ11 =>
  if r11 = 0 then
    bd2 (X10_take (27 : Int32) σ11) fun r21 σ21 =>
    if r21 = 0 then
      bd2 (X10_need (28 : Int32) σ21) fun r41 σ41 =>
      if r41 = 0 then
        X4_readLine_49 a1 r1 (-1 : Int32) σ41
      else
        X4_readLine_49 a1 r1 (0 : Int32) σ41
    else
      X4_readLine_27 a1 r1 σ21
  else
    X4_readLine_27 a1 r1 σ11
def X4_readAll_34 (σ : Mem) : Option (Int32 × Mem) :=
  if (σ 1 6) = (-1 : Int32) then
    bd (gb (1 : Int32)) fun _ =>
    some ((1 : Int32), σ)
  else
    bd (gb (0 : Int32)) fun _ =>
    some ((0 : Int32), σ)
def X4_readAll_2 : Nat → Nat → Int32 → Mem → Option (Int32 × Mem)
  | 0, _, _, _ => none
  | f + 1, a1, x2, σ =>
    if (12 : Int32) < x2 then
      X4_readAll_34 σ
    else
      bd2 (X10_hasLine x2 (12 : Int32) σ) fun r12 σ12 =>
      if r12 = 0 then
        X4_readAll_34 σ12
      else
        bd2 (X4_readLine a1 σ12) fun r20 σ20 =>
        if r20 = 0 then
          bd (gb (0 : Int32)) fun _ =>
          some ((0 : Int32), σ20)
        else
          X4_readAll_2 f a1 (x2 + 1) σ20
def X4_readAll (a1 : Nat) (σ : Mem) : Option (Int32 × Mem) :=
  X4_readAll_2 FU a1 (0 : Int32) σ
def X3_copyFrom (a0 : Nat) (a1 : Nat) (σ : Mem) : Option Mem :=
  bd (pu σ a0 0 (σ a1 0)) fun σ5 =>
  bd (X6_copyFrom (a0 + 1) (a1 + 1) σ5) fun σ16 =>
  bd (X6_copyFrom (a0 + 3) (a1 + 3) σ16) fun σ27 =>
  bd (X6_copyFrom (a0 + 5) (a1 + 5) σ27) fun σ38 =>
  bd (X6_copyFrom (a0 + 7) (a1 + 7) σ38) fun σ49 =>
  bd (pu σ49 a0 5 (σ49 a1 5)) fun σ57 =>
  some σ57
def X11_law (σ : Mem) : Option ((Int32 ⊕ Nat) × Mem) :=
  bd (X10_scan σ) fun σ4 =>
  bd (X3_begin 85 σ4) fun σ11 =>
  bd2 (X4_readAll 85 σ11) fun r22 σ22 =>
  if r22 = 0 then
    some (.inr 2, σ22)
  else
    bd (X3_copyFrom 72 85 σ22) fun σ46 =>
    bd (X2_forget σ46) fun σ53 =>
    some (.inl (σ53 72 0), σ53)
def X11_fault (σ : Mem) : Option Int32 :=
  some ((σ 1 6))
def X11_needPane_15 (σ : Mem) : Option (Int32 ⊕ Nat) :=
  some (.inr 1)
def X11_needPane (σ : Mem) (x1 : Int32) : Option (Int32 ⊕ Nat) :=
  if x1 < 0 then
    X11_needPane_15 σ
  else
    if x1 < (σ 9 0) then
      some (.inl 0)
    else
      X11_needPane_15 σ
def X11_hasBit (σ : Mem) (x0 : Int32) (x1 : Int32) : Option Int32 :=
  if ((x0 >>> (x1 &&& 31)) &&& (1 : Int32)) = 0 then
    bd (gb (0 : Int32)) fun _ =>
    some ((0 : Int32))
  else
    bd (gb (1 : Int32)) fun _ =>
    some ((1 : Int32))
def X7_isBurning (σ : Mem) (a0 : Nat) (x1 : Int32) : Option Int32 :=
  bd (X11_hasBit σ (σ a0 8) x1) fun r5 =>
  bd (gb r5) fun _ =>
  some (r5)
def X7_likesOf (σ : Mem) (a0 : Nat) (x1 : Int32) (x2 : Int32) : Option Int32 :=
  bd (X6_get σ (a0 + 17) ((x1 * (6 : Int32)) + x2)) fun r10 =>
  some (r10)
def X7_likesFor (σ : Mem) (a0 : Nat) (x1 : Int32) (x2 : Int32) : Option Int32 :=
  bd (X6_get σ (a0 + 3) x2) fun r5 =>
  if r5 = (-1 : Int32) then
    some ((5 : Int32))
  else
    if r5 = x1 then
      some ((5 : Int32))
    else
      bd (X7_likesOf σ a0 x1 r5) fun r26 =>
      some (r26)
def X3_look_144 (a0 : Nat) (a1 : Nat) (b0 : Nat) (y1 : Int32) (y2 : Int32) (σ : Mem) : Option Mem :=
  bd (X6_set b0 y1 y2 σ) fun σ144 =>
  bd (tFa (18 : Int32)) fun r154 =>
  if (σ144 a1 6) = 0 then
    bd (X6_set (a0 + 9) r154 (0 : Int32) σ144) fun σ169 =>
    some σ169
  else
    bd (X6_set (a0 + 9) r154 (1 : Int32) σ144) fun σ169 =>
    some σ169
def X3_look (a0 : Nat) (a1 : Nat) (x2 : Int32) (x3 : Int32) (x4 : Int32) (x5 : Int32) (σ : Mem) : Option Mem :=
  bd (tFa (11 : Int32)) fun r7 =>
  bd (X6_set (a0 + 9) r7 x2 σ) fun σ11 =>
  bd (tFa (10 : Int32)) fun r21 =>
  bd (X6_set (a0 + 9) r21 x3 σ11) fun σ25 =>
  bd (tFa (12 : Int32)) fun r35 =>
  bd (X6_get σ25 (a1 + 1) x3) fun r43 =>
  bd (X6_set (a0 + 9) r35 r43 σ25) fun σ46 =>
  bd (tFa (13 : Int32)) fun r56 =>
  bd (X6_get σ46 (a1 + 5) x3) fun r64 =>
  bd (X6_set (a0 + 9) r56 r64 σ46) fun σ67 =>
  bd (tFa (14 : Int32)) fun r77 =>
  bd (X6_set (a0 + 9) r77 x5 σ67) fun σ82 =>
  bd (tFa (15 : Int32)) fun r92 =>
  bd (X6_set (a0 + 9) r92 x4 σ82) fun σ97 =>
  bd (tFa (16 : Int32)) fun r107 =>
  bd (X6_set (a0 + 9) r107 (σ97 a1 3) σ97) fun σ114 =>
  bd (tFa (17 : Int32)) fun r124 =>
  bd (X6_get σ114 (a1 + 3) x3) fun r132 =>
  if r132 = (-1 : Int32) then
    X3_look_144 a0 a1 (a0 + 9) r124 (0 : Int32) σ114
  else
    X3_look_144 a0 a1 (a0 + 9) r124 (1 : Int32) σ114
def X3_joined (σ : Mem) (x0 : Int32) (x1 : Int32) (x2 : Int32) : Option Int32 :=
  if x0 = (-5 : Int32) then
    some ((x1 &&& x2))
  else
    if x0 = (-4 : Int32) then
      some ((x1 ||| x2))
    else
      if x0 = (-3 : Int32) then
        if x1 ≤ x2 then
          some ((0 : Int32))
        else
          some ((1 : Int32))
      else
        if x0 = (-2 : Int32) then
          if x2 ≤ x1 then
            some ((0 : Int32))
          else
            some ((1 : Int32))
        else
          if x0 = (-1 : Int32) then
            some ((x1 + x2))
          else
            some ((x1 ||| x2))
def X3_holds_21 : Nat → Nat → Int32 → Int32 → Int32 → Mem → Option (Int32 × Mem)
  | 0, _, _, _, _, _ => none
  | f + 1, a0, x1, x2, x3, σ =>
    bd (X6_get σ (a0 + 5) x1) fun r27 =>
    if r27 ≤ x3 then
      if x2 < 0 then
        bd (gb (1 : Int32)) fun _ =>
        some ((1 : Int32), σ)
      else
        bd (X6_get σ (a0 + 11) x2) fun r176 =>
        if r176 = 0 then
          bd (gb (0 : Int32)) fun _ =>
          some ((0 : Int32), σ)
        else
          bd (gb (1 : Int32)) fun _ =>
          some ((1 : Int32), σ)
    else
      bd (X6_get σ (a0 + 7) x3) fun r38 =>
      if r38 < (1000 : Int32) then
        if r38 < 0 then
          if r38 = (-4 : Int32) then
            bd (X6_get σ (a0 + 11) x2) fun r117 =>
            bd (X6_set (a0 + 11) x2 ((1 : Int32) - r117) σ) fun σ121 =>
            X3_holds_21 f a0 x1 x2 (x3 + 1) σ121
          else
            bd (X6_get σ (a0 + 11) (x2 + (-1))) fun r142 =>
            bd (X6_get σ (a0 + 11) ((x2 + (-1)) + (1 : Int32))) fun r152 =>
            bd (X3_joined σ r38 r142 r152) fun r155 =>
            bd (X6_set (a0 + 11) (x2 + (-1)) r155 σ) fun σ158 =>
            X3_holds_21 f a0 x1 (x2 + (-1)) (x3 + 1) σ158
        else
          bd (X6_set (a0 + 11) (x2 + 1) r38 σ) fun σ93 =>
          X3_holds_21 f a0 x1 (x2 + 1) (x3 + 1) σ93
      else
        bd (X6_get σ (a0 + 9) (r38 - (1000 : Int32))) fun r69 =>
        bd (X6_set (a0 + 11) (x2 + 1) r69 σ) fun σ72 =>
        X3_holds_21 f a0 x1 (x2 + 1) (x3 + 1) σ72
def X3_holds_20 (a0 : Nat) (x1 : Int32) (x2 : Int32) (y0 : Int32) (σ : Mem) : Option (Int32 × Mem) :=
  X3_holds_21 FU a0 x1 x2 y0 σ
def X3_holds (a0 : Nat) (x1 : Int32) (σ : Mem) : Option (Int32 × Mem) :=
  if x1 ≤ 0 then
    X3_holds_20 a0 x1 (-1 : Int32) (0 : Int32) σ
  else
    bd (X6_get σ (a0 + 5) (x1 - (1 : Int32))) fun r13 =>
    X3_holds_20 a0 x1 (-1 : Int32) r13 σ
def X3_willNow_16 : Nat → Nat → Int32 → Int32 → Mem → Option (Int32 × Mem)
  | 0, _, _, _, _ => none
  | f + 1, a0, x1, x2, σ =>
    if (σ a0 0) ≤ x2 then
      some (x1, σ)
    else
      bd (X6_get σ (a0 + 1) x2) fun r29 =>
      if r29 = 0 then
        X3_willNow_16 f a0 x1 (x2 + 1) σ
      else
        bd2 (X3_holds a0 x2 σ) fun r37 σ37 =>
        if r37 = 0 then
          X3_willNow_16 f a0 x1 (x2 + 1) σ37
        else
          bd (X6_get σ37 (a0 + 1) x2) fun r49 =>
          X3_willNow_16 f a0 (x1 + r49) (x2 + 1) σ37
def X3_willNow (a0 : Nat) (σ : Mem) : Option (Int32 × Mem) :=
  bd (tFa (15 : Int32)) fun r7 =>
  bd (X6_get σ (a0 + 9) r7) fun r10 =>
  X3_willNow_16 FU a0 r10 (0 : Int32) σ
def X3_passesNow_2 : Nat → Nat → Int32 → Mem → Option (Int32 × Mem)
  | 0, _, _, _ => none
  | f + 1, a0, x1, σ =>
    if (σ a0 0) ≤ x1 then
      bd (gb (0 : Int32)) fun _ =>
      some ((0 : Int32), σ)
    else
      bd (X6_get σ (a0 + 3) x1) fun r15 =>
      if r15 = 0 then
        X3_passesNow_2 f a0 (x1 + 1) σ
      else
        bd2 (X3_holds a0 x1 σ) fun r23 σ23 =>
        if r23 = 0 then
          X3_passesNow_2 f a0 (x1 + 1) σ23
        else
          bd (gb (1 : Int32)) fun _ =>
          some ((1 : Int32), σ23)
def X3_passesNow (a0 : Nat) (σ : Mem) : Option (Int32 × Mem) :=
  X3_passesNow_2 FU a0 (0 : Int32) σ
def X3_letsLight (a0 : Nat) (a1 : Nat) (x2 : Int32) (x3 : Int32) (x4 : Int32) (x5 : Int32) (σ : Mem) : Option (Int32 × Mem) :=
  if x5 ≤ 0 then
    bd (gb (0 : Int32)) fun _ =>
    some ((0 : Int32), σ)
  else
    bd (X7_isBurning σ a1 x3) fun r7 =>
    if r7 = 0 then
      bd (X6_get σ (a1 + 1) x3) fun r18 =>
      if r18 ≤ 0 then
        bd (gb (0 : Int32)) fun _ =>
        some ((0 : Int32), σ)
      else
        bd (X6_get σ (a1 + 3) x3) fun r29 =>
        if r29 = x2 then
          bd (gb (0 : Int32)) fun _ =>
          some ((0 : Int32), σ)
        else
          bd (X3_look a0 a1 x2 x3 x4 x5 σ) fun σ46 =>
          bd2 (X3_willNow a0 σ46) fun r50 σ50 =>
          if r50 < (5 : Int32) then
            bd (gb (0 : Int32)) fun _ =>
            some ((0 : Int32), σ50)
          else
            bd2 (X3_passesNow a0 σ50) fun r58 σ58 =>
            if r58 = 0 then
              bd (gb (1 : Int32)) fun _ =>
              some ((1 : Int32), σ58)
            else
              bd (gb (0 : Int32)) fun _ =>
              some ((0 : Int32), σ58)
    else
      bd (gb (0 : Int32)) fun _ =>
      some ((0 : Int32), σ)
def X1_canLight_6 : Nat → Nat → Nat → Int32 → Int32 → Int32 → Mem → Option (Int32 × Mem)
  | 0, _, _, _, _, _, _ => none
  | f + 1, a1, a2, x3, x4, x5, σ =>
    if (σ a1 1) ≤ x5 then
      some (x4, σ)
    else
      bd (X7_likesFor σ a1 x5 x3) fun r19 =>
      bd (X6_get σ (a1 + 11) x5) fun r37 =>
      bd2 (X3_letsLight a2 a1 x5 x3 r19 r37 σ) fun r40 σ40 =>
      if r40 = 0 then
        X1_canLight_6 f a1 a2 x3 x4 (x5 + 1) σ40
      else
        bd (X11_bit σ40 x5) fun r50 =>
        X1_canLight_6 f a1 a2 x3 (x4 ||| r50) (x5 + 1) σ40
def X1_canLight (a1 : Nat) (a2 : Nat) (x3 : Int32) (σ : Mem) : Option (Int32 × Mem) :=
  X1_canLight_6 FU a1 a2 x3 (0 : Int32) (0 : Int32) σ
def X7_draw (a0 : Nat) (σ : Mem) : Option (Int32 × Mem) :=
  bd (pu σ a0 7 (((σ a0 7) * (1103515245 : Int32)) + (12345 : Int32))) fun σ12 =>
  some ((((σ12 a0 7) >>> ((16 : Int32) &&& 31)) &&& (32767 : Int32)), σ12)
def X7_around_4 (σ : Mem) : Nat → Nat → Int32 → Int32 → Int32 → Option Int32
  | 0, _, _, _, _ => none
  | f + 1, a0, x1, x2, x3 =>
    if (σ a0 0) ≤ x3 then
      some (x2)
    else
      bd (X11_hasBit σ x1 x3) fun r14 =>
      if r14 = 0 then
        X7_around_4 σ f a0 x1 x2 (x3 + 1)
      else
        bd (X6_get σ (a0 + 7) x3) fun r26 =>
        X7_around_4 σ f a0 x1 (x2 ||| r26) (x3 + 1)
def X7_around (σ : Mem) (a0 : Nat) (x1 : Int32) : Option Int32 :=
  X7_around_4 σ FU a0 x1 (0 : Int32) (0 : Int32)
def X11_lowest_2 (σ : Mem) : Nat → Int32 → Int32 → Option Int32
  | 0, _, _ => none
  | f + 1, x0, x1 =>
    if (9 : Int32) ≤ x1 then
      some ((-1 : Int32))
    else
      bd (X11_hasBit σ x0 x1) fun r10 =>
      if r10 = 0 then
        X11_lowest_2 σ f x0 (x1 + 1)
      else
        some (x1)
def X11_lowest (σ : Mem) (x0 : Int32) : Option Int32 :=
  X11_lowest_2 σ FU x0 (0 : Int32)
def X7_stepTo_18 (σ : Mem) : Nat → Nat → Int32 → Int32 → Int32 → Option Int32
  | 0, _, _, _, _ => none
  | f + 1, a0, x1, x3, x4 =>
    if (9 : Int32) ≤ x4 then
      some (x1)
    else
      bd (X7_around σ a0 x3) fun r28 =>
      bd (X11_hasBit σ (x3 ||| r28) x1) fun r37 =>
      if r37 = 0 then
        X7_stepTo_18 σ f a0 x1 (x3 ||| r28) (x4 + 1)
      else
        bd (X6_get σ (a0 + 7) x1) fun r49 =>
        bd (X11_lowest σ (x3 &&& r49)) fun r53 =>
        some (r53)
def X7_stepTo (σ : Mem) (a0 : Nat) (x1 : Int32) (x2 : Int32) : Option Int32 :=
  bd (X11_bit σ x2) fun r1 =>
  bd (X11_hasBit σ r1 x1) fun r7 =>
  if r7 = 0 then
    X7_stepTo_18 σ FU a0 x1 r1 (0 : Int32)
  else
    some (x1)
def X0_walkOn_65 (rc2 : Nat → Int32 → Mem → Option Mem) (a1 : Nat) (x2 : Int32) (b0 : Nat) (y1 : Int32) (y2 : Int32) (σ : Mem) : Option Mem :=
  bd (X6_set b0 y1 y2 σ) fun σ65 =>
  rc2 a1 (x2 + 1) σ65
def X0_walkOn_2 : Nat → Nat → Int32 → Mem → Option Mem
  | 0, _, _, _ => none
  | f + 1, a1, x2, σ =>
    if (σ a1 1) ≤ x2 then
      some σ
    else
      bd (X6_get σ (a1 + 13) x2) fun r15 =>
      if r15 = (-1 : Int32) then
        X0_walkOn_2 f a1 (x2 + 1) σ
      else
        bd (X6_get σ (a1 + 9) x2) fun r30 =>
        bd (X7_stepTo σ a1 r30 r15) fun r34 =>
        bd (X6_set (a1 + 9) x2 r34 σ) fun σ46 =>
        if r34 = r15 then
          X0_walkOn_65 (X0_walkOn_2 f) a1 x2 (a1 + 13) x2 (-1 : Int32) σ46
        else
          X0_walkOn_65 (X0_walkOn_2 f) a1 x2 (a1 + 13) x2 r15 σ46
def X0_walkOn (a1 : Nat) (σ : Mem) : Option Mem :=
  X0_walkOn_2 FU a1 (0 : Int32) σ
def X6_add (a0 : Nat) (x1 : Int32) (x2 : Int32) (σ : Mem) : Option Mem :=
  if x1 < 0 then
    some σ
  else
    if (nI (ln (a0 + 1))) ≤ x1 then
      some σ
    else
      bd (ag σ (a0 + 1) x1) fun r19 =>
      bd (au σ (a0 + 1) x1 (r19 + x2)) fun σ22 =>
      some σ22
def X7_write (a0 : Nat) (x1 : Int32) (x2 : Int32) (x3 : Int32) (σ : Mem) : Option Mem :=
  bd (some (((((((((((σ a0 4) * (32 : Int32)) + (σ a0 3)) * (4 : Int32)) + x1) * (16 : Int32)) + x2) * (8 : Int32)) + x3) + (1 : Int32)))) fun v28 =>
  bd (X6_set (a0 + 19) ((σ a0 19) - (σ a0 19) / (60 : Int32) * (60 : Int32)) v28 σ) fun σ43 =>
  bd (pu σ43 a0 19 ((σ43 a0 19) + (1 : Int32))) fun σ53 =>
  some σ53
def X7_light_92 (a0 : Nat) (x1 : Int32) (x2 : Int32) (x3 : Int32) (σ : Mem) : Option Mem :=
  bd (X7_write a0 x3 x2 x1 σ) fun σ96 =>
  some σ96
def X7_light (a0 : Nat) (x1 : Int32) (x2 : Int32) (x3 : Int32) (σ : Mem) : Option Mem :=
  bd (X11_bit σ x2) fun r6 =>
  bd (pu σ a0 8 ((σ a0 8) ||| r6)) fun σ10 =>
  bd (X6_set (a0 + 5) x2 (0 : Int32) σ10) fun σ19 =>
  bd (X6_add (a0 + 11) x1 (-1 : Int32) σ19) fun σ28 =>
  bd (X6_get σ28 (a0 + 15) x1) fun r41 =>
  bd (X6_set (a0 + 15) x1 (if (999 : Int32) < (r41 + (1 : Int32)) then (999 : Int32) else (r41 + (1 : Int32))) σ28) fun σ52 =>
  bd (X6_get σ52 (a0 + 3) x2) fun r60 =>
  if r60 = (-1 : Int32) then
    X7_light_92 a0 x1 x2 x3 σ52
  else
    bd (X7_likesOf σ52 a0 r60 x1) fun r79 =>
    bd (X7_setLikes a0 r60 x1 (if (9 : Int32) < (r79 + (1 : Int32)) then (9 : Int32) else (r79 + (1 : Int32))) σ52) fun σ89 =>
    X7_light_92 a0 x1 x2 x3 σ89
def X0_lightLamps_5 : Nat → Nat → Nat → Int32 → Int32 → Mem → Option (Int32 × Mem)
  | 0, _, _, _, _, _ => none
  | f + 1, a1, a2, x3, x4, σ =>
    if (σ a1 1) ≤ x4 then
      some (x3, σ)
    else
      bd (X6_get σ (a1 + 9) x4) fun r20 =>
      bd (X7_likesFor σ a1 x4 r20) fun r30 =>
      bd (X6_get σ (a1 + 11) x4) fun r49 =>
      bd2 (X3_letsLight a2 a1 x4 r20 r30 r49 σ) fun r52 σ52 =>
      if r52 = 0 then
        X0_lightLamps_5 f a1 a2 x3 (x4 + 1) σ52
      else
        bd (X7_light a1 x4 r20 (0 : Int32) σ52) fun σ64 =>
        X0_lightLamps_5 f a1 a2 (x3 + 1) (x4 + 1) σ64
def X0_lightLamps (a1 : Nat) (a2 : Nat) (σ : Mem) : Option (Int32 × Mem) :=
  X0_lightLamps_5 FU a1 a2 (0 : Int32) (0 : Int32) σ
def X7_burnDown_50 (a0 : Nat) (x1 : Int32) (σ : Mem) : Option Mem :=
  bd (X7_isBurning σ a0 x1) fun r52 =>
  if r52 = 0 then
    bd (X6_get σ (a0 + 5) x1) fun r68 =>
    bd (X6_set (a0 + 5) x1 (if (99 : Int32) < (r68 + (1 : Int32)) then (99 : Int32) else (r68 + (1 : Int32))) σ) fun σ78 =>
    some σ78
  else
    some σ
def X7_burnDown (a0 : Nat) (x1 : Int32) (σ : Mem) : Option Mem :=
  bd (X7_isBurning σ a0 x1) fun r2 =>
  if r2 = 0 then
    X7_burnDown_50 a0 x1 σ
  else
    bd (X6_add (a0 + 1) x1 (-1 : Int32) σ) fun σ14 =>
    bd (X6_get σ14 (a0 + 1) x1) fun r22 =>
    if 0 < r22 then
      X7_burnDown_50 a0 x1 σ14
    else
      bd (X11_bit σ14 x1) fun r34 =>
      bd (pu σ14 a0 8 ((σ14 a0 8) &&& (r34 ^^^ (-1 : Int32)))) fun σ40 =>
      bd (X7_write a0 (2 : Int32) x1 (-1 : Int32) σ40) fun σ47 =>
      X7_burnDown_50 a0 x1 σ47
def X7_turnHour (a0 : Nat) (σ : Mem) : Option Mem :=
  bd (pu σ a0 3 ((σ a0 3) + (1 : Int32))) fun σ7 =>
  if (σ7 a0 3) ≤ (23 : Int32) then
    some σ7
  else
    bd (pu σ7 a0 3 (0 : Int32)) fun σ21 =>
    bd (pu σ21 a0 4 (if (9999 : Int32) < ((σ21 a0 4) + (1 : Int32)) then (9999 : Int32) else ((σ21 a0 4) + (1 : Int32)))) fun σ37 =>
    some σ37
def X0_tick_50 : Nat → Nat → Int32 → Int32 → Mem → Option (Int32 × Mem)
  | 0, _, _, _, _ => none
  | f + 1, a1, x4, x5, σ =>
    if (σ a1 0) ≤ x5 then
      bd (X7_turnHour a1 σ) fun σ72 =>
      some (x4, σ72)
    else
      bd (X7_burnDown a1 x5 σ) fun σ62 =>
      X0_tick_50 f a1 x4 (x5 + 1) σ62
def X0_tick_39 (a1 : Nat) (a2 : Nat) (σ : Mem) : Option (Int32 × Mem) :=
  bd2 (X0_lightLamps a1 a2 σ) fun r42 σ42 =>
  X0_tick_50 FU a1 r42 (0 : Int32) σ42
def X0_tick_24 (a1 : Nat) (a2 : Nat) (b0 : Nat) (y1 : Int32) (σ : Mem) : Option (Int32 × Mem) :=
  bd (gb y1) fun _ =>
  bd (pu σ b0 6 y1) fun σ24 =>
  if (σ24 a1 6) = 0 then
    bd (X0_walkOn a1 σ24) fun σ36 =>
    X0_tick_39 a1 a2 σ36
  else
    X0_tick_39 a1 a2 σ24
def X0_tick_23 (a1 : Nat) (a2 : Nat) (b0 : Nat) (σ : Mem) : Option (Int32 × Mem) :=
  X0_tick_24 a1 a2 b0 (0 : Int32) σ
def X0_tick (a1 : Nat) (a2 : Nat) (x3 : Int32) (σ : Mem) : Option (Int32 × Mem) :=
  if x3 = 0 then
    X0_tick_23 a1 a2 a1 σ
  else
    bd2 (X7_draw a1 σ) fun r6 σ6 =>
    if (σ6 a1 5) ≤ (r6 - r6 / (100 : Int32) * (100 : Int32)) then
      X0_tick_23 a1 a2 a1 σ6
    else
      X0_tick_24 a1 a2 a1 (1 : Int32) σ6
def X0_firstBurning_11 : Nat → Nat → Int32 → Int32 → Mem → Option (Int32 × Mem)
  | 0, _, _, _, _ => none
  | f + 1, a2, x3, x4, σ =>
    if (60 : Int32) < x4 then
      some ((-1 : Int32), σ)
    else
      bd (X7_isBurning σ 366 x3) fun r23 =>
      if r23 = 0 then
        bd2 (X0_tick 366 a2 (0 : Int32) σ) fun r39 σ39 =>
        X0_firstBurning_11 f a2 x3 (x4 + 1) σ39
      else
        some (x4, σ)
def X0_firstBurning (a1 : Nat) (a2 : Nat) (x3 : Int32) (σ : Mem) : Option (Int32 × Mem) :=
  bd (X7_copyFrom 366 a1 σ) fun σ5 =>
  X0_firstBurning_11 FU a2 x3 (0 : Int32) σ5
section WALK
variable {p : Program} {l : Launch} {e : Env} {s : State} {m : MethodId} {args : Array Value} {below : List Frame} {meth : Method} {c : Code} {E : GE}
set_option maxRecDepth 20000 in
theorem w_oX4_readAtom_172 {r : (Int32 × Mem)} {rf_readCondition : Nat → Int32 → Mem → Option (Int32 × Mem)} {rf_readAtom : Nat → Int32 → Mem → Option (Int32 × Mem)} {σ : Mem} {a1 : Nat} {x4 : Int32} {ls : Array Slot} {H : Heap} {locs : List Loc} (C : Cx p s m args meth c cX4_readAtom (some .boolean) 5 RX4) (G : Gf E s) {hd : Nat} (h40 : 40 ≤ hd) (hc_readCondition : ∀ {σ : Mem} {a1 : Nat} {x2 : Int32} {r : Int32 × Mem} (_ : kd a1 = 3), rf_readCondition a1 x2 σ = some r → CtI l E yX4_readCondition cX4_readCondition 5 .boolean hd [.ref (gB E + 1), .ref (gB E + a1), .int x2] σ r.1 r.2) (hc_readAtom : ∀ {σ : Mem} {a1 : Nat} {x2 : Int32} {r : Int32 × Mem} (_ : kd a1 = 3), rf_readAtom a1 x2 σ = some r → CtI l E yX4_readAtom cX4_readAtom 5 .boolean hd [.ref (gB E + 1), .ref (gB E + a1), .int x2] σ r.1 r.2) (X : Hx E σ s H locs) (hk_a1 : kd a1 = 3) (hl : lv_has ls 5 [(0, .ref (gB E + 1)), (1, .ref (gB E + a1)), (4, .int x4)]) (h : oX4_readAtom_172 rf_readCondition rf_readAtom a1 x4 σ = some r) : W p l e (RM (hd + 4)) s m args below meth c H locs 0 0 (QI E below args s r.1 r.2) (F0 m 172 ls []) := by
  rw [oX4_readAtom_172] at h
  refine lv_aload_n C.1 C.2.1 dX4_readAtom_172 rfl (lv_at hl 0 rfl) ?_
  refine lv_aload_n C.1 C.2.1 dX4_readAtom_173 rfl (lv_at hl 1 rfl) ?_
  obtain ⟨r174, σ174, e174, h⟩ := bnd2 h
  refine afI (r0 := r174) (σ' := σ174) X (runS C G X q_X4_readSum k_1132 k_1131 (c_X4_readSum l E hk_a1 e174) rfl hl.1 rfl (Nat.le_of_ble_eq_true rfl) ⟨by show _ ≤ hd + 4; omega, by show _ ≤ 48 * (hd + 4); omega⟩ ⟨Nat.le_of_ble_eq_true rfl, Nat.le_of_ble_eq_true rfl⟩ dX4_readAtom_174) (fun H locs X => ?_)
  refine lv_if_ne (tgt := 182) C.1 C.2.1 dX4_readAtom_177 (by decide) (fun c177 => ?_) (fun c177 => ?_)
  · replace h := ineg c177 h
    refine lv_aload_n C.1 C.2.1 dX4_readAtom_182 rfl (lv_at hl 1 rfl) ?_
    refine lv_iload C.1 C.2.1 dX4_readAtom_183 (lv_at hl 2 rfl) ?_
    refine lv_if_eq (tgt := 193) C.1 C.2.1 dX4_readAtom_185 (by decide) (fun c185 => ?_) (fun c185 => ?_)
    · replace h := ipos c185 h
      refine lv_bipush (v := -3) C.1 C.2.1 dX4_readAtom_193 (by decide) ?_
      obtain ⟨σ195, e195, h⟩ := bnd h
      refine afV X (runV C G X q_X3_emit k_1120 k_1121 k_1119 (rcX3 G X hk_a1) (c_X3_emit l E hk_a1 e195) rfl hl.1 rfl (Nat.le_of_ble_eq_true rfl) ⟨by show _ ≤ hd + 4; omega, by show _ ≤ 48 * (hd + 4); omega⟩ ⟨Nat.le_of_ble_eq_true rfl, Nat.le_of_ble_eq_true rfl⟩ dX4_readAtom_195) (fun H locs X => ?_)
      refine lv_iconst (v := 1) C.1 C.2.1 dX4_readAtom_198 (by decide) ?_
      obtain ⟨u199, z199, h⟩ := bnd h
      rw [← Option.some.inj h]
      exact rtZ C X (gb_s z199) dX4_readAtom_199
    · replace h := ineg c185 h
      refine lv_bipush (v := -2) C.1 C.2.1 dX4_readAtom_188 (by decide) ?_
      refine lv_goto (tgt := 195) C.1 C.2.1 dX4_readAtom_190 (by decide) ?_
      obtain ⟨σ195, e195, h⟩ := bnd h
      refine afV X (runV C G X q_X3_emit k_1120 k_1121 k_1119 (rcX3 G X hk_a1) (c_X3_emit l E hk_a1 e195) rfl hl.1 rfl (Nat.le_of_ble_eq_true rfl) ⟨by show _ ≤ hd + 4; omega, by show _ ≤ 48 * (hd + 4); omega⟩ ⟨Nat.le_of_ble_eq_true rfl, Nat.le_of_ble_eq_true rfl⟩ dX4_readAtom_195) (fun H locs X => ?_)
      refine lv_iconst (v := 1) C.1 C.2.1 dX4_readAtom_198 (by decide) ?_
      obtain ⟨u199, z199, h⟩ := bnd h
      rw [← Option.some.inj h]
      exact rtZ C X (gb_s z199) dX4_readAtom_199
  · replace h := ipos c177 h
    refine lv_iconst (v := 0) C.1 C.2.1 dX4_readAtom_180 (by decide) ?_
    obtain ⟨u181, z181, h⟩ := bnd h
    rw [← Option.some.inj h]
    exact rtZ C X (gb_s z181) dX4_readAtom_181

set_option maxRecDepth 20000 in
theorem w_oX4_readAtom_41 {r : (Int32 × Mem)} {rf_readCondition : Nat → Int32 → Mem → Option (Int32 × Mem)} {rf_readAtom : Nat → Int32 → Mem → Option (Int32 × Mem)} {σ : Mem} {a1 : Nat} {x2 : Int32} {ls : Array Slot} {H : Heap} {locs : List Loc} (C : Cx p s m args meth c cX4_readAtom (some .boolean) 5 RX4) (G : Gf E s) {hd : Nat} (h40 : 40 ≤ hd) (hc_readCondition : ∀ {σ : Mem} {a1 : Nat} {x2 : Int32} {r : Int32 × Mem} (_ : kd a1 = 3), rf_readCondition a1 x2 σ = some r → CtI l E yX4_readCondition cX4_readCondition 5 .boolean hd [.ref (gB E + 1), .ref (gB E + a1), .int x2] σ r.1 r.2) (hc_readAtom : ∀ {σ : Mem} {a1 : Nat} {x2 : Int32} {r : Int32 × Mem} (_ : kd a1 = 3), rf_readAtom a1 x2 σ = some r → CtI l E yX4_readAtom cX4_readAtom 5 .boolean hd [.ref (gB E + 1), .ref (gB E + a1), .int x2] σ r.1 r.2) (X : Hx E σ s H locs) (hk_a1 : kd a1 = 3) (hl : lv_has ls 5 [(0, .ref (gB E + 1)), (1, .ref (gB E + a1)), (2, .int x2)]) (h : oX4_readAtom_41 rf_readCondition rf_readAtom a1 x2 σ = some r) : W p l e (RM (hd + 4)) s m args below meth c H locs 0 0 (QI E below args s r.1 r.2) (F0 m 41 ls []) := by
  rw [oX4_readAtom_41] at h
  refine lv_aload_n C.1 C.2.1 dX4_readAtom_41 rfl (lv_at hl 0 rfl) ?_
  refine gsT C G X (i := 4) (x := 5) (by decide) (by decide) (nm := "OPEN") rfl k_1114 dX4_readAtom_42 ?_
  obtain ⟨r45, σ45, e45, h⟩ := bnd2 h
  refine afI (r0 := r45) (σ' := σ45) X (runV C G X q_X10_take k_914 k_915 k_1092 (rcX10 G X kd_1) (c_X10_take l E e45) rfl hl.1 rfl (Nat.le_of_ble_eq_true rfl) ⟨by show _ ≤ hd + 4; omega, by show _ ≤ 48 * (hd + 4); omega⟩ ⟨Nat.le_of_ble_eq_true rfl, Nat.le_of_ble_eq_true rfl⟩ dX4_readAtom_45) (fun H locs X => ?_)
  refine lv_if_eq (tgt := 78) C.1 C.2.1 dX4_readAtom_48 (by decide) (fun c48 => ?_) (fun c48 => ?_)
  · replace h := ipos c48 h
    refine lv_aload_n C.1 C.2.1 dX4_readAtom_78 rfl (lv_at hl 0 rfl) ?_
    refine gsT C G X (i := 29) (x := 30) (by decide) (by decide) (nm := "NOT") rfl k_1111 dX4_readAtom_79 ?_
    obtain ⟨r82, σ82, e82, h⟩ := bnd2 h
    refine afI (r0 := r82) (σ' := σ82) X (runV C G X q_X10_take k_914 k_915 k_1092 (rcX10 G X kd_1) (c_X10_take l E e82) rfl hl.1 rfl (Nat.le_of_ble_eq_true rfl) ⟨by show _ ≤ hd + 4; omega, by show _ ≤ 48 * (hd + 4); omega⟩ ⟨Nat.le_of_ble_eq_true rfl, Nat.le_of_ble_eq_true rfl⟩ dX4_readAtom_82) (fun H locs X => ?_)
    refine lv_if_eq (tgt := 107) C.1 C.2.1 dX4_readAtom_85 (by decide) (fun c85 => ?_) (fun c85 => ?_)
    · replace h := ipos c85 h
      refine lv_aload_n C.1 C.2.1 dX4_readAtom_107 rfl (lv_at hl 0 rfl) ?_
      obtain ⟨r108, e108, h⟩ := bnd h
      refine afQ X (runV C G X q_X10_term k_904 k_905 k_1089 (rcX10 G X kd_1) (c_X10_term l E e108) rfl hl.1 rfl (Nat.le_of_ble_eq_true rfl) ⟨by show _ ≤ hd + 4; omega, by show _ ≤ 48 * (hd + 4); omega⟩ ⟨Nat.le_of_ble_eq_true rfl, Nat.le_of_ble_eq_true rfl⟩ dX4_readAtom_108) (fun H locs X => ?_)
      obtain ⟨u111, rz111, h⟩ := bnd h
      obtain ⟨r111, e111, h⟩ := bnd h
      refine afI X (runVT C G X rz111 q_X9_isYesOrNo k_1124 k_1125 k_1123 (c_X9_isYesOrNo l E e111) rfl hl.1 rfl (Nat.le_of_ble_eq_true rfl) ⟨by show _ ≤ hd + 4; omega, by show _ ≤ 48 * (hd + 4); omega⟩ ⟨Nat.le_of_ble_eq_true rfl, Nat.le_of_ble_eq_true rfl⟩ dX4_readAtom_111) (fun H locs X => ?_)
      refine lv_if_eq (tgt := 138) C.1 C.2.1 dX4_readAtom_114 (by decide) (fun c114 => ?_) (fun c114 => ?_)
      · replace h := ipos c114 h
        refine lv_aload_n C.1 C.2.1 dX4_readAtom_138 rfl (lv_at hl 0 rfl) ?_
        refine lv_aload_n C.1 C.2.1 dX4_readAtom_139 rfl (lv_at hl 1 rfl) ?_
        obtain ⟨r140, σ140, e140, h⟩ := bnd2 h
        refine afI (r0 := r140) (σ' := σ140) X (runS C G X q_X4_readSum k_1132 k_1131 (c_X4_readSum l E hk_a1 e140) rfl hl.1 rfl (Nat.le_of_ble_eq_true rfl) ⟨by show _ ≤ hd + 4; omega, by show _ ≤ 48 * (hd + 4); omega⟩ ⟨Nat.le_of_ble_eq_true rfl, Nat.le_of_ble_eq_true rfl⟩ dX4_readAtom_140) (fun H locs X => ?_)
        refine lv_if_ne (tgt := 148) C.1 C.2.1 dX4_readAtom_143 (by decide) (fun c143 => ?_) (fun c143 => ?_)
        · replace h := ineg c143 h
          refine lv_aload_n C.1 C.2.1 dX4_readAtom_148 rfl (lv_at hl 0 rfl) ?_
          refine gsT C G X (i := 7) (x := 8) (by decide) (by decide) (nm := "LESS") rfl k_1140 dX4_readAtom_149 ?_
          obtain ⟨r152, σ152, e152, h⟩ := bnd2 h
          refine afI (r0 := r152) (σ' := σ152) X (runV C G X q_X10_take k_914 k_915 k_1092 (rcX10 G X kd_1) (c_X10_take l E e152) rfl hl.1 rfl (Nat.le_of_ble_eq_true rfl) ⟨by show _ ≤ hd + 4; omega, by show _ ≤ 48 * (hd + 4); omega⟩ ⟨Nat.le_of_ble_eq_true rfl, Nat.le_of_ble_eq_true rfl⟩ dX4_readAtom_152) (fun H locs X => ?_)
          refine lv_istore (lv' := [(4, .int r152), (0, .ref (gB E + 1)), (1, .ref (gB E + a1)), (2, .int x2)]) C.1 C.2.1 dX4_readAtom_155 hl (by decide) rfl (fun ls hl => ?_)
          refine lv_iload C.1 C.2.1 dX4_readAtom_157 (lv_at hl 0 rfl) ?_
          refine lv_if_ne (tgt := 172) C.1 C.2.1 dX4_readAtom_159 (by decide) (fun c159 => ?_) (fun c159 => ?_)
          · replace h := ineg c159 h
            exact w_oX4_readAtom_172 C G h40 hc_readCondition hc_readAtom X hk_a1 (lv_sub hl [1, 2, 0] rfl) h
          · replace h := ipos c159 h
            refine lv_aload_n C.1 C.2.1 dX4_readAtom_162 rfl (lv_at hl 1 rfl) ?_
            refine gsT C G X (i := 8) (x := 9) (by decide) (by decide) (nm := "MORE") rfl k_1142 dX4_readAtom_163 ?_
            obtain ⟨r166, σ166, e166, h⟩ := bnd2 h
            refine afI (r0 := r166) (σ' := σ166) X (runV C G X q_X10_need k_910 k_911 k_1098 (rcX10 G X kd_1) (c_X10_need l E e166) rfl hl.1 rfl (Nat.le_of_ble_eq_true rfl) ⟨by show _ ≤ hd + 4; omega, by show _ ≤ 48 * (hd + 4); omega⟩ ⟨Nat.le_of_ble_eq_true rfl, Nat.le_of_ble_eq_true rfl⟩ dX4_readAtom_166) (fun H locs X => ?_)
            refine lv_if_eq (tgt := 180) C.1 C.2.1 dX4_readAtom_169 (by decide) (fun c169 => ?_) (fun c169 => ?_)
            · replace h := ipos c169 h
              refine lv_iconst (v := 0) C.1 C.2.1 dX4_readAtom_180 (by decide) ?_
              obtain ⟨u181, z181, h⟩ := bnd h
              rw [← Option.some.inj h]
              exact rtZ C X (gb_s z181) dX4_readAtom_181
            · replace h := ineg c169 h
              exact w_oX4_readAtom_172 C G h40 hc_readCondition hc_readAtom X hk_a1 (lv_sub hl [1, 2, 0] rfl) h
        · replace h := ipos c143 h
          refine lv_iconst (v := 0) C.1 C.2.1 dX4_readAtom_146 (by decide) ?_
          obtain ⟨u147, z147, h⟩ := bnd h
          rw [← Option.some.inj h]
          exact rtZ C X (gb_s z147) dX4_readAtom_147
      · replace h := ineg c114 h
        refine lv_aload_n C.1 C.2.1 dX4_readAtom_117 rfl (lv_at hl 1 rfl) ?_
        refine lv_sipush (v := 1000) C.1 C.2.1 dX4_readAtom_118 (by decide) ?_
        refine lv_aload_n C.1 C.2.1 dX4_readAtom_121 rfl (lv_at hl 0 rfl) ?_
        obtain ⟨r122, e122, h⟩ := bnd h
        refine afQ X (runV C G X q_X10_term k_904 k_905 k_1089 (rcX10 G X kd_1) (c_X10_term l E e122) rfl hl.1 rfl (Nat.le_of_ble_eq_true rfl) ⟨by show _ ≤ hd + 4; omega, by show _ ≤ 48 * (hd + 4); omega⟩ ⟨Nat.le_of_ble_eq_true rfl, Nat.le_of_ble_eq_true rfl⟩ dX4_readAtom_122) (fun H locs X => ?_)
        obtain ⟨r125, e125, h⟩ := bnd h
        refine gfFa C G X e125 k_2321 dX4_readAtom_125 ?_
        refine lv_iadd C.1 C.2.1 dX4_readAtom_128 ?_
        obtain ⟨σ129, e129, h⟩ := bnd h
        refine afV X (runV C G X q_X3_emit k_1120 k_1121 k_1119 (rcX3 G X hk_a1) (c_X3_emit l E hk_a1 e129) rfl hl.1 rfl (Nat.le_of_ble_eq_true rfl) ⟨by show _ ≤ hd + 4; omega, by show _ ≤ 48 * (hd + 4); omega⟩ ⟨Nat.le_of_ble_eq_true rfl, Nat.le_of_ble_eq_true rfl⟩ dX4_readAtom_129) (fun H locs X => ?_)
        refine lv_aload_n C.1 C.2.1 dX4_readAtom_132 rfl (lv_at hl 0 rfl) ?_
        obtain ⟨σ133, e133, h⟩ := bnd h
        refine afV X (runV C G X q_X10_step k_1128 k_1129 k_1127 (rcX10 G X kd_1) (c_X10_step l E e133) rfl hl.1 rfl (Nat.le_of_ble_eq_true rfl) ⟨by show _ ≤ hd + 4; omega, by show _ ≤ 48 * (hd + 4); omega⟩ ⟨Nat.le_of_ble_eq_true rfl, Nat.le_of_ble_eq_true rfl⟩ dX4_readAtom_133) (fun H locs X => ?_)
        refine lv_iconst (v := 1) C.1 C.2.1 dX4_readAtom_136 (by decide) ?_
        obtain ⟨u137, z137, h⟩ := bnd h
        rw [← Option.some.inj h]
        exact rtZ C X (gb_s z137) dX4_readAtom_137
    · replace h := ineg c85 h
      refine lv_aload_n C.1 C.2.1 dX4_readAtom_88 rfl (lv_at hl 0 rfl) ?_
      refine lv_aload_n C.1 C.2.1 dX4_readAtom_89 rfl (lv_at hl 1 rfl) ?_
      refine lv_iload_n C.1 C.2.1 dX4_readAtom_90 rfl (lv_at hl 2 rfl) ?_
      refine lv_iconst (v := 1) C.1 C.2.1 dX4_readAtom_91 (by decide) ?_
      refine lv_iadd C.1 C.2.1 dX4_readAtom_92 ?_
      obtain ⟨r93, σ93, e93, h⟩ := bnd2 h
      refine afI (r0 := r93) (σ' := σ93) X (runS C G X q_X4_readAtom k_1109 k_1108 (hc_readAtom hk_a1 e93) rfl hl.1 rfl (Nat.le_of_ble_eq_true rfl) ⟨by show _ ≤ hd + 4; omega, by show _ ≤ 48 * (hd + 4); omega⟩ ⟨Nat.le_of_ble_eq_true rfl, Nat.le_of_ble_eq_true rfl⟩ dX4_readAtom_93) (fun H locs X => ?_)
      refine lv_istore (lv' := [(4, .int r93), (0, .ref (gB E + 1)), (1, .ref (gB E + a1)), (2, .int x2)]) C.1 C.2.1 dX4_readAtom_96 hl (by decide) rfl (fun ls hl => ?_)
      refine lv_aload_n C.1 C.2.1 dX4_readAtom_98 rfl (lv_at hl 2 rfl) ?_
      refine lv_bipush (v := -4) C.1 C.2.1 dX4_readAtom_99 (by decide) ?_
      obtain ⟨σ101, e101, h⟩ := bnd h
      refine afV X (runV C G X q_X3_emit k_1120 k_1121 k_1119 (rcX3 G X hk_a1) (c_X3_emit l E hk_a1 e101) rfl hl.1 rfl (Nat.le_of_ble_eq_true rfl) ⟨by show _ ≤ hd + 4; omega, by show _ ≤ 48 * (hd + 4); omega⟩ ⟨Nat.le_of_ble_eq_true rfl, Nat.le_of_ble_eq_true rfl⟩ dX4_readAtom_101) (fun H locs X => ?_)
      refine lv_iload C.1 C.2.1 dX4_readAtom_104 (lv_at hl 0 rfl) ?_
      obtain ⟨u106, z106, h⟩ := bnd h
      rw [← Option.some.inj h]
      exact rtZ C X (gb_s z106) dX4_readAtom_106
  · replace h := ineg c48 h
    refine lv_aload_n C.1 C.2.1 dX4_readAtom_51 rfl (lv_at hl 0 rfl) ?_
    refine lv_aload_n C.1 C.2.1 dX4_readAtom_52 rfl (lv_at hl 1 rfl) ?_
    refine lv_iload_n C.1 C.2.1 dX4_readAtom_53 rfl (lv_at hl 2 rfl) ?_
    refine lv_iconst (v := 1) C.1 C.2.1 dX4_readAtom_54 (by decide) ?_
    refine lv_iadd C.1 C.2.1 dX4_readAtom_55 ?_
    obtain ⟨r56, σ56, e56, h⟩ := bnd2 h
    refine afI (r0 := r56) (σ' := σ56) X (runS C G X q_X4_readCondition k_1106 k_1105 (hc_readCondition hk_a1 e56) rfl hl.1 rfl (Nat.le_of_ble_eq_true rfl) ⟨by show _ ≤ hd + 4; omega, by show _ ≤ 48 * (hd + 4); omega⟩ ⟨Nat.le_of_ble_eq_true rfl, Nat.le_of_ble_eq_true rfl⟩ dX4_readAtom_56) (fun H locs X => ?_)
    refine lv_if_eq (tgt := 76) C.1 C.2.1 dX4_readAtom_59 (by decide) (fun c59 => ?_) (fun c59 => ?_)
    · replace h := ipos c59 h
      refine lv_iconst (v := 0) C.1 C.2.1 dX4_readAtom_76 (by decide) ?_
      obtain ⟨u77, z77, h⟩ := bnd h
      rw [← Option.some.inj h]
      exact rtZ C X (gb_s z77) dX4_readAtom_77
    · replace h := ineg c59 h
      refine lv_aload_n C.1 C.2.1 dX4_readAtom_62 rfl (lv_at hl 0 rfl) ?_
      refine gsT C G X (i := 5) (x := 6) (by decide) (by decide) (nm := "CLOSE") rfl k_1117 dX4_readAtom_63 ?_
      obtain ⟨r66, σ66, e66, h⟩ := bnd2 h
      refine afI (r0 := r66) (σ' := σ66) X (runV C G X q_X10_need k_910 k_911 k_1098 (rcX10 G X kd_1) (c_X10_need l E e66) rfl hl.1 rfl (Nat.le_of_ble_eq_true rfl) ⟨by show _ ≤ hd + 4; omega, by show _ ≤ 48 * (hd + 4); omega⟩ ⟨Nat.le_of_ble_eq_true rfl, Nat.le_of_ble_eq_true rfl⟩ dX4_readAtom_66) (fun H locs X => ?_)
      refine lv_if_eq (tgt := 76) C.1 C.2.1 dX4_readAtom_69 (by decide) (fun c69 => ?_) (fun c69 => ?_)
      · replace h := ipos c69 h
        refine lv_iconst (v := 0) C.1 C.2.1 dX4_readAtom_76 (by decide) ?_
        obtain ⟨u77, z77, h⟩ := bnd h
        rw [← Option.some.inj h]
        exact rtZ C X (gb_s z77) dX4_readAtom_77
      · replace h := ineg c69 h
        refine lv_iconst (v := 1) C.1 C.2.1 dX4_readAtom_72 (by decide) ?_
        refine lv_goto (tgt := 77) C.1 C.2.1 dX4_readAtom_73 (by decide) ?_
        obtain ⟨u77, z77, h⟩ := bnd h
        rw [← Option.some.inj h]
        exact rtZ C X (gb_s z77) dX4_readAtom_77

set_option maxRecDepth 20000 in
theorem w_oX4_readAtom_25 {r : (Int32 × Mem)} {rf_readCondition : Nat → Int32 → Mem → Option (Int32 × Mem)} {rf_readAtom : Nat → Int32 → Mem → Option (Int32 × Mem)} {σ : Mem} {a1 : Nat} {x2 : Int32} {y0 : Int32} {ls : Array Slot} {H : Heap} {locs : List Loc} (C : Cx p s m args meth c cX4_readAtom (some .boolean) 5 RX4) (G : Gf E s) {hd : Nat} (h40 : 40 ≤ hd) (hc_readCondition : ∀ {σ : Mem} {a1 : Nat} {x2 : Int32} {r : Int32 × Mem} (_ : kd a1 = 3), rf_readCondition a1 x2 σ = some r → CtI l E yX4_readCondition cX4_readCondition 5 .boolean hd [.ref (gB E + 1), .ref (gB E + a1), .int x2] σ r.1 r.2) (hc_readAtom : ∀ {σ : Mem} {a1 : Nat} {x2 : Int32} {r : Int32 × Mem} (_ : kd a1 = 3), rf_readAtom a1 x2 σ = some r → CtI l E yX4_readAtom cX4_readAtom 5 .boolean hd [.ref (gB E + 1), .ref (gB E + a1), .int x2] σ r.1 r.2) (X : Hx E σ s H locs) (hk_a1 : kd a1 = 3) (hl : lv_has ls 5 [(0, .ref (gB E + 1)), (1, .ref (gB E + a1)), (2, .int x2)]) (h : oX4_readAtom_25 rf_readCondition rf_readAtom a1 x2 y0 σ = some r) : W p l e (RM (hd + 4)) s m args below meth c H locs 0 0 (QI E below args s r.1 r.2) (F0 m 25 ls [.int y0]) := by
  rw [oX4_readAtom_25] at h
  refine lv_istore_n (lv' := [(3, .int y0), (0, .ref (gB E + 1)), (1, .ref (gB E + a1)), (2, .int x2)]) C.1 C.2.1 dX4_readAtom_25 rfl hl (by decide) rfl (fun ls hl => ?_)
  refine lv_iload_n C.1 C.2.1 dX4_readAtom_26 rfl (lv_at hl 0 rfl) ?_
  refine lv_if_eq (tgt := 41) C.1 C.2.1 dX4_readAtom_27 (by decide) (fun c27 => ?_) (fun c27 => ?_)
  · replace h := ipos c27 h
    exact w_oX4_readAtom_41 C G h40 hc_readCondition hc_readAtom X hk_a1 (lv_sub hl [1, 2, 3] rfl) h
  · replace h := ineg c27 h
    refine lv_iload_n C.1 C.2.1 dX4_readAtom_30 rfl (lv_at hl 3 rfl) ?_
    refine lv_bipush (v := 6) C.1 C.2.1 dX4_readAtom_31 (by decide) ?_
    refine lv_icmp_lt (tgt := 41) C.1 C.2.1 dX4_readAtom_33 (by decide) (fun c33 => ?_) (fun c33 => ?_)
    · replace h := ipos c33 h
      exact w_oX4_readAtom_41 C G h40 hc_readCondition hc_readAtom X hk_a1 (lv_sub hl [1, 2, 3] rfl) h
    · replace h := ineg c33 h
      refine lv_aload_n C.1 C.2.1 dX4_readAtom_36 rfl (lv_at hl 1 rfl) ?_
      obtain ⟨r37, σ37, e37, h⟩ := bnd2 h
      refine afI (r0 := r37) (σ' := σ37) X (runV C G X q_X10_wrong k_918 k_919 k_1116 (rcX10 G X kd_1) (c_X10_wrong l E e37) rfl hl.1 rfl (Nat.le_of_ble_eq_true rfl) ⟨by show _ ≤ hd + 4; omega, by show _ ≤ 48 * (hd + 4); omega⟩ ⟨Nat.le_of_ble_eq_true rfl, Nat.le_of_ble_eq_true rfl⟩ dX4_readAtom_37) (fun H locs X => ?_)
      obtain ⟨u40, z40, h⟩ := bnd h
      rw [← Option.some.inj h]
      exact rtZ C X (gb_s z40) dX4_readAtom_40

set_option maxRecDepth 20000 in
theorem w_oX4_readAtom_20 {r : (Int32 × Mem)} {rf_readCondition : Nat → Int32 → Mem → Option (Int32 × Mem)} {rf_readAtom : Nat → Int32 → Mem → Option (Int32 × Mem)} {σ : Mem} {a1 : Nat} {x2 : Int32} {ls : Array Slot} {H : Heap} {locs : List Loc} (C : Cx p s m args meth c cX4_readAtom (some .boolean) 5 RX4) (G : Gf E s) {hd : Nat} (h40 : 40 ≤ hd) (hc_readCondition : ∀ {σ : Mem} {a1 : Nat} {x2 : Int32} {r : Int32 × Mem} (_ : kd a1 = 3), rf_readCondition a1 x2 σ = some r → CtI l E yX4_readCondition cX4_readCondition 5 .boolean hd [.ref (gB E + 1), .ref (gB E + a1), .int x2] σ r.1 r.2) (hc_readAtom : ∀ {σ : Mem} {a1 : Nat} {x2 : Int32} {r : Int32 × Mem} (_ : kd a1 = 3), rf_readAtom a1 x2 σ = some r → CtI l E yX4_readAtom cX4_readAtom 5 .boolean hd [.ref (gB E + 1), .ref (gB E + a1), .int x2] σ r.1 r.2) (X : Hx E σ s H locs) (hk_a1 : kd a1 = 3) (hl : lv_has ls 5 [(0, .ref (gB E + 1)), (1, .ref (gB E + a1)), (2, .int x2)]) (h : oX4_readAtom_20 rf_readCondition rf_readAtom a1 x2 σ = some r) : W p l e (RM (hd + 4)) s m args below meth c H locs 0 0 (QI E below args s r.1 r.2) (F0 m 20 ls []) := by
  rw [oX4_readAtom_20] at h
  refine lv_iconst (v := 1) C.1 C.2.1 dX4_readAtom_20 (by decide) ?_
  refine lv_goto (tgt := 25) C.1 C.2.1 dX4_readAtom_21 (by decide) ?_
  exact w_oX4_readAtom_25 C G h40 hc_readCondition hc_readAtom X hk_a1 (lv_sub hl [0, 1, 2] rfl) h

set_option maxRecDepth 20000 in
theorem w_oX4_readAtom {r : (Int32 × Mem)} {rf_readCondition : Nat → Int32 → Mem → Option (Int32 × Mem)} {rf_readAtom : Nat → Int32 → Mem → Option (Int32 × Mem)} {σ : Mem} {a1 : Nat} {x2 : Int32} {ls : Array Slot} {H : Heap} {locs : List Loc} (C : Cx p s m args meth c cX4_readAtom (some .boolean) 5 RX4) (G : Gf E s) {hd : Nat} (h40 : 40 ≤ hd) (hc_readCondition : ∀ {σ : Mem} {a1 : Nat} {x2 : Int32} {r : Int32 × Mem} (_ : kd a1 = 3), rf_readCondition a1 x2 σ = some r → CtI l E yX4_readCondition cX4_readCondition 5 .boolean hd [.ref (gB E + 1), .ref (gB E + a1), .int x2] σ r.1 r.2) (hc_readAtom : ∀ {σ : Mem} {a1 : Nat} {x2 : Int32} {r : Int32 × Mem} (_ : kd a1 = 3), rf_readAtom a1 x2 σ = some r → CtI l E yX4_readAtom cX4_readAtom 5 .boolean hd [.ref (gB E + 1), .ref (gB E + a1), .int x2] σ r.1 r.2) (X : Hx E σ s H locs) (hk_a1 : kd a1 = 3) (hl : lv_has ls 5 [(0, .ref (gB E + 1)), (1, .ref (gB E + a1)), (2, .int x2)]) (h : oX4_readAtom rf_readCondition rf_readAtom a1 x2 σ = some r) : W p l e (RM (hd + 4)) s m args below meth c H locs 0 0 (QI E below args s r.1 r.2) (F0 m 0 ls []) := by
  rw [oX4_readAtom] at h
  refine lv_aload_n C.1 C.2.1 dX4_readAtom_0 rfl (lv_at hl 0 rfl) ?_
  refine gsT C G X (i := 29) (x := 30) (by decide) (by decide) (nm := "NOT") rfl k_1111 dX4_readAtom_1 ?_
  obtain ⟨r4, e4, h⟩ := bnd h
  refine afI X (runV C G X q_X10_is k_900 k_901 k_1113 (rcX10 G X kd_1) (c_X10_is l E e4) rfl hl.1 rfl (Nat.le_of_ble_eq_true rfl) ⟨by show _ ≤ hd + 4; omega, by show _ ≤ 48 * (hd + 4); omega⟩ ⟨Nat.le_of_ble_eq_true rfl, Nat.le_of_ble_eq_true rfl⟩ dX4_readAtom_4) (fun H locs X => ?_)
  refine lv_if_ne (tgt := 20) C.1 C.2.1 dX4_readAtom_7 (by decide) (fun c7 => ?_) (fun c7 => ?_)
  · replace h := ineg c7 h
    exact w_oX4_readAtom_20 C G h40 hc_readCondition hc_readAtom X hk_a1 (lv_sub hl [0, 1, 2] rfl) h
  · replace h := ipos c7 h
    refine lv_aload_n C.1 C.2.1 dX4_readAtom_10 rfl (lv_at hl 0 rfl) ?_
    refine gsT C G X (i := 4) (x := 5) (by decide) (by decide) (nm := "OPEN") rfl k_1114 dX4_readAtom_11 ?_
    obtain ⟨r14, e14, h⟩ := bnd h
    refine afI X (runV C G X q_X10_is k_900 k_901 k_1113 (rcX10 G X kd_1) (c_X10_is l E e14) rfl hl.1 rfl (Nat.le_of_ble_eq_true rfl) ⟨by show _ ≤ hd + 4; omega, by show _ ≤ 48 * (hd + 4); omega⟩ ⟨Nat.le_of_ble_eq_true rfl, Nat.le_of_ble_eq_true rfl⟩ dX4_readAtom_14) (fun H locs X => ?_)
    refine lv_if_eq (tgt := 24) C.1 C.2.1 dX4_readAtom_17 (by decide) (fun c17 => ?_) (fun c17 => ?_)
    · replace h := ipos c17 h
      refine lv_iconst (v := 0) C.1 C.2.1 dX4_readAtom_24 (by decide) ?_
      exact w_oX4_readAtom_25 C G h40 hc_readCondition hc_readAtom X hk_a1 (lv_sub hl [0, 1, 2] rfl) h
    · replace h := ineg c17 h
      exact w_oX4_readAtom_20 C G h40 hc_readCondition hc_readAtom X hk_a1 (lv_sub hl [0, 1, 2] rfl) h

theorem c_X4_readAtom_o (l : Launch) (E : GE) {rf_readCondition : Nat → Int32 → Mem → Option (Int32 × Mem)} {rf_readAtom : Nat → Int32 → Mem → Option (Int32 × Mem)} {hd : Nat} (h40 : 40 ≤ hd) (hc_readCondition : ∀ {σ : Mem} {a1 : Nat} {x2 : Int32} {r : Int32 × Mem} (_ : kd a1 = 3), rf_readCondition a1 x2 σ = some r → CtI l E yX4_readCondition cX4_readCondition 5 .boolean hd [.ref (gB E + 1), .ref (gB E + a1), .int x2] σ r.1 r.2) (hc_readAtom : ∀ {σ : Mem} {a1 : Nat} {x2 : Int32} {r : Int32 × Mem} (_ : kd a1 = 3), rf_readAtom a1 x2 σ = some r → CtI l E yX4_readAtom cX4_readAtom 5 .boolean hd [.ref (gB E + 1), .ref (gB E + a1), .int x2] σ r.1 r.2) {σ : Mem} {a1 : Nat} {x2 : Int32} (hk_a1 : kd a1 = 3) {r : (Int32 × Mem)} (h : oX4_readAtom rf_readCondition rf_readAtom a1 x2 σ = some r) : CtI l E yX4_readAtom cX4_readAtom 5 .boolean (hd + 4) [.ref (gB E + 1), .ref (gB E + a1), .int x2] σ r.1 r.2 := by
  refine Met.ofW (cc := cX4_readAtom) (maxL := 5) (ret := (some .boolean)) (by decide) rfl ?_
  intro p e s m args below meth c s₁ B hml hv
  obtain ⟨rfl, G, X⟩ := start hv
  have C := cxof B hml
  have hl := lv_entry [.ref (gB E + 1), .ref (gB E + a1), .int x2] (n := 5) (Nat.le_of_ble_eq_true rfl)
  rw [lg_entry_eq]
  generalize (lg_sl [.ref (gB E + 1), .ref (gB E + a1), .int x2] ++ List.replicate (5 - (lg_sl [.ref (gB E + 1), .ref (gB E + a1), .int x2]).length) Slot.unset).toArray = ls at hl ⊢
  exact w_oX4_readAtom C G h40 hc_readCondition hc_readAtom X hk_a1 hl h

set_option maxRecDepth 20000 in
theorem w_oX4_readCondition_71 {r : (Int32 × Mem)} {rf_readAtom : Nat → Int32 → Mem → Option (Int32 × Mem)} {σ : Mem} {rc2 : Nat → Int32 → Int32 → Mem → Option (Int32 × Mem)} {a1 : Nat} {x2 : Int32} {x3 : Int32} {ls : Array Slot} {H : Heap} {locs : List Loc} (C : Cx p s m args meth c cX4_readCondition (some .boolean) 5 RX4) (G : Gf E s) {hd : Nat} (h40 : 40 ≤ hd) (hc_readAtom : ∀ {σ : Mem} {a1 : Nat} {x2 : Int32} {r : Int32 × Mem} (_ : kd a1 = 3), rf_readAtom a1 x2 σ = some r → CtI l E yX4_readAtom cX4_readAtom 5 .boolean hd [.ref (gB E + 1), .ref (gB E + a1), .int x2] σ r.1 r.2) (hr2 : ∀ {a1 : Nat} {x2 : Int32} {x3 : Int32} {σ : Mem} {ls : Array Slot} {H : Heap} {locs : List Loc}, Hx E σ s H locs → kd a1 = 3 → lv_has ls 5 [(0, .ref (gB E + 1)), (1, .ref (gB E + a1)), (2, .int x2), (3, .int x3)] → rc2 a1 x2 x3 σ = some r → W p l e (RM (hd + 4)) s m args below meth c H locs 0 0 (QI E below args s r.1 r.2) (F0 m 2 ls [])) (X : Hx E σ s H locs) (hk_a1 : kd a1 = 3) (hl : lv_has ls 5 [(0, .ref (gB E + 1)), (1, .ref (gB E + a1)), (2, .int x2), (3, .int x3)]) (h : oX4_readCondition_71 rf_readAtom rc2 a1 x2 x3 σ = some r) : W p l e (RM (hd + 4)) s m args below meth c H locs 0 0 (QI E below args s r.1 r.2) (F0 m 71 ls []) := by
  rw [oX4_readCondition_71] at h
  refine lv_aload_n C.1 C.2.1 dX4_readCondition_71 rfl (lv_at hl 0 rfl) ?_
  refine gsT C G X (i := 31) (x := 32) (by decide) (by decide) (nm := "OR") rfl k_1146 dX4_readCondition_72 ?_
  obtain ⟨r75, σ75, e75, h⟩ := bnd2 h
  refine afI (r0 := r75) (σ' := σ75) X (runV C G X q_X10_take k_914 k_915 k_1092 (rcX10 G X kd_1) (c_X10_take l E e75) rfl hl.1 rfl (Nat.le_of_ble_eq_true rfl) ⟨by show _ ≤ hd + 4; omega, by show _ ≤ 48 * (hd + 4); omega⟩ ⟨Nat.le_of_ble_eq_true rfl, Nat.le_of_ble_eq_true rfl⟩ dX4_readCondition_75) (fun H locs X => ?_)
  refine lv_if_ne (tgt := 84) C.1 C.2.1 dX4_readCondition_78 (by decide) (fun c78 => ?_) (fun c78 => ?_)
  · replace h := ineg c78 h
    refine lv_iinc (v := (x3 + 1)) (lv' := [(3, .int (x3 + 1)), (0, .ref (gB E + 1)), (1, .ref (gB E + a1)), (2, .int x2)]) C.1 C.2.1 dX4_readCondition_84 hl (k := 3) rfl rfl (by decide) rfl (fun ls hl => ?_)
    refine lv_goto (tgt := 2) C.1 C.2.1 dX4_readCondition_87 (by decide) ?_
    exact hr2 X hk_a1 (lv_sub hl [1, 2, 3, 0] rfl) h
  · replace h := ipos c78 h
    refine lv_goto (tgt := 90) C.1 C.2.1 dX4_readCondition_81 (by decide) ?_
    refine lv_iconst (v := 1) C.1 C.2.1 dX4_readCondition_90 (by decide) ?_
    obtain ⟨u91, z91, h⟩ := bnd h
    rw [← Option.some.inj h]
    exact rtZ C X (gb_s z91) dX4_readCondition_91

set_option maxRecDepth 20000 in
theorem w_oX4_readCondition_61 {r : (Int32 × Mem)} {rf_readAtom : Nat → Int32 → Mem → Option (Int32 × Mem)} {σ : Mem} {rc2 : Nat → Int32 → Int32 → Mem → Option (Int32 × Mem)} {a1 : Nat} {x2 : Int32} {x3 : Int32} {ls : Array Slot} {H : Heap} {locs : List Loc} (C : Cx p s m args meth c cX4_readCondition (some .boolean) 5 RX4) (G : Gf E s) {hd : Nat} (h40 : 40 ≤ hd) (hc_readAtom : ∀ {σ : Mem} {a1 : Nat} {x2 : Int32} {r : Int32 × Mem} (_ : kd a1 = 3), rf_readAtom a1 x2 σ = some r → CtI l E yX4_readAtom cX4_readAtom 5 .boolean hd [.ref (gB E + 1), .ref (gB E + a1), .int x2] σ r.1 r.2) (hr2 : ∀ {a1 : Nat} {x2 : Int32} {x3 : Int32} {σ : Mem} {ls : Array Slot} {H : Heap} {locs : List Loc}, Hx E σ s H locs → kd a1 = 3 → lv_has ls 5 [(0, .ref (gB E + 1)), (1, .ref (gB E + a1)), (2, .int x2), (3, .int x3)] → rc2 a1 x2 x3 σ = some r → W p l e (RM (hd + 4)) s m args below meth c H locs 0 0 (QI E below args s r.1 r.2) (F0 m 2 ls [])) (X : Hx E σ s H locs) (hk_a1 : kd a1 = 3) (hl : lv_has ls 5 [(0, .ref (gB E + 1)), (1, .ref (gB E + a1)), (2, .int x2), (3, .int x3)]) (h : oX4_readCondition_61 rf_readAtom rc2 a1 x2 x3 σ = some r) : W p l e (RM (hd + 4)) s m args below meth c H locs 0 0 (QI E below args s r.1 r.2) (F0 m 61 ls []) := by
  rw [oX4_readCondition_61] at h
  refine lv_iload_n C.1 C.2.1 dX4_readCondition_61 rfl (lv_at hl 3 rfl) ?_
  refine lv_if_le (tgt := 71) C.1 C.2.1 dX4_readCondition_62 (by decide) (fun c62 => ?_) (fun c62 => ?_)
  · replace h := ipos c62 h
    exact w_oX4_readCondition_71 C G h40 hc_readAtom hr2 X hk_a1 (lv_sub hl [0, 1, 2, 3] rfl) h
  · replace h := ineg c62 h
    refine lv_aload_n C.1 C.2.1 dX4_readCondition_65 rfl (lv_at hl 1 rfl) ?_
    refine lv_bipush (v := -6) C.1 C.2.1 dX4_readCondition_66 (by decide) ?_
    obtain ⟨σ68, e68, h⟩ := bnd h
    refine afV X (runV C G X q_X3_emit k_1120 k_1121 k_1119 (rcX3 G X hk_a1) (c_X3_emit l E hk_a1 e68) rfl hl.1 rfl (Nat.le_of_ble_eq_true rfl) ⟨by show _ ≤ hd + 4; omega, by show _ ≤ 48 * (hd + 4); omega⟩ ⟨Nat.le_of_ble_eq_true rfl, Nat.le_of_ble_eq_true rfl⟩ dX4_readCondition_68) (fun H locs X => ?_)
    exact w_oX4_readCondition_71 C G h40 hc_readAtom hr2 X hk_a1 (lv_sub hl [0, 1, 2, 3] rfl) h

set_option maxRecDepth 20000 in
theorem w_oX4_readCondition_42 {r : (Int32 × Mem)} {rf_readAtom : Nat → Int32 → Mem → Option (Int32 × Mem)} {σ : Mem} {rc2 : Nat → Int32 → Int32 → Mem → Option (Int32 × Mem)} {rc12 : Nat → Int32 → Int32 → Int32 → Mem → Option (Int32 × Mem)} {a1 : Nat} {x2 : Int32} {x3 : Int32} {x4 : Int32} {ls : Array Slot} {H : Heap} {locs : List Loc} (C : Cx p s m args meth c cX4_readCondition (some .boolean) 5 RX4) (G : Gf E s) {hd : Nat} (h40 : 40 ≤ hd) (hc_readAtom : ∀ {σ : Mem} {a1 : Nat} {x2 : Int32} {r : Int32 × Mem} (_ : kd a1 = 3), rf_readAtom a1 x2 σ = some r → CtI l E yX4_readAtom cX4_readAtom 5 .boolean hd [.ref (gB E + 1), .ref (gB E + a1), .int x2] σ r.1 r.2) (hr2 : ∀ {a1 : Nat} {x2 : Int32} {x3 : Int32} {σ : Mem} {ls : Array Slot} {H : Heap} {locs : List Loc}, Hx E σ s H locs → kd a1 = 3 → lv_has ls 5 [(0, .ref (gB E + 1)), (1, .ref (gB E + a1)), (2, .int x2), (3, .int x3)] → rc2 a1 x2 x3 σ = some r → W p l e (RM (hd + 4)) s m args below meth c H locs 0 0 (QI E below args s r.1 r.2) (F0 m 2 ls [])) (hr12 : ∀ {a1 : Nat} {x2 : Int32} {x3 : Int32} {x4 : Int32} {σ : Mem} {ls : Array Slot} {H : Heap} {locs : List Loc}, Hx E σ s H locs → kd a1 = 3 → lv_has ls 5 [(0, .ref (gB E + 1)), (1, .ref (gB E + a1)), (2, .int x2), (3, .int x3), (4, .int x4)] → rc12 a1 x2 x3 x4 σ = some r → W p l e (RM (hd + 4)) s m args below meth c H locs 0 0 (QI E below args s r.1 r.2) (F0 m 12 ls [])) (X : Hx E σ s H locs) (hk_a1 : kd a1 = 3) (hl : lv_has ls 5 [(0, .ref (gB E + 1)), (1, .ref (gB E + a1)), (2, .int x2), (3, .int x3), (4, .int x4)]) (h : oX4_readCondition_42 rf_readAtom rc2 rc12 a1 x2 x3 x4 σ = some r) : W p l e (RM (hd + 4)) s m args below meth c H locs 0 0 (QI E below args s r.1 r.2) (F0 m 42 ls []) := by
  rw [oX4_readCondition_42] at h
  refine lv_aload_n C.1 C.2.1 dX4_readCondition_42 rfl (lv_at hl 0 rfl) ?_
  refine gsT C G X (i := 30) (x := 31) (by decide) (by decide) (nm := "AND") rfl k_1144 dX4_readCondition_43 ?_
  obtain ⟨r46, σ46, e46, h⟩ := bnd2 h
  refine afI (r0 := r46) (σ' := σ46) X (runV C G X q_X10_take k_914 k_915 k_1092 (rcX10 G X kd_1) (c_X10_take l E e46) rfl hl.1 rfl (Nat.le_of_ble_eq_true rfl) ⟨by show _ ≤ hd + 4; omega, by show _ ≤ 48 * (hd + 4); omega⟩ ⟨Nat.le_of_ble_eq_true rfl, Nat.le_of_ble_eq_true rfl⟩ dX4_readCondition_46) (fun H locs X => ?_)
  refine lv_if_ne (tgt := 55) C.1 C.2.1 dX4_readCondition_49 (by decide) (fun c49 => ?_) (fun c49 => ?_)
  · replace h := ineg c49 h
    refine lv_iinc (v := (x4 + 1)) (lv' := [(4, .int (x4 + 1)), (0, .ref (gB E + 1)), (1, .ref (gB E + a1)), (2, .int x2), (3, .int x3)]) C.1 C.2.1 dX4_readCondition_55 hl (k := 4) rfl rfl (by decide) rfl (fun ls hl => ?_)
    refine lv_goto (tgt := 12) C.1 C.2.1 dX4_readCondition_58 (by decide) ?_
    exact hr12 X hk_a1 (lv_sub hl [1, 2, 3, 4, 0] rfl) h
  · replace h := ipos c49 h
    refine lv_goto (tgt := 61) C.1 C.2.1 dX4_readCondition_52 (by decide) ?_
    exact w_oX4_readCondition_61 C G h40 hc_readAtom hr2 X hk_a1 (lv_sub hl [0, 1, 2, 3] rfl) h

set_option maxRecDepth 20000 in
theorem w_oX4_readCondition_12 {r : (Int32 × Mem)} {rf_readAtom : Nat → Int32 → Mem → Option (Int32 × Mem)} {rc2 : Nat → Int32 → Int32 → Mem → Option (Int32 × Mem)} (C : Cx p s m args meth c cX4_readCondition (some .boolean) 5 RX4) (G : Gf E s) {hd : Nat} (h40 : 40 ≤ hd) (hc_readAtom : ∀ {σ : Mem} {a1 : Nat} {x2 : Int32} {r : Int32 × Mem} (_ : kd a1 = 3), rf_readAtom a1 x2 σ = some r → CtI l E yX4_readAtom cX4_readAtom 5 .boolean hd [.ref (gB E + 1), .ref (gB E + a1), .int x2] σ r.1 r.2) (hr2 : ∀ {a1 : Nat} {x2 : Int32} {x3 : Int32} {σ : Mem} {ls : Array Slot} {H : Heap} {locs : List Loc}, Hx E σ s H locs → kd a1 = 3 → lv_has ls 5 [(0, .ref (gB E + 1)), (1, .ref (gB E + a1)), (2, .int x2), (3, .int x3)] → rc2 a1 x2 x3 σ = some r → W p l e (RM (hd + 4)) s m args below meth c H locs 0 0 (QI E below args s r.1 r.2) (F0 m 2 ls [])) : ∀ (f : Nat) {a1 : Nat} {x2 : Int32} {x3 : Int32} {x4 : Int32} {σ : Mem} {ls : Array Slot} {H : Heap} {locs : List Loc}, Hx E σ s H locs → kd a1 = 3 → lv_has ls 5 [(0, .ref (gB E + 1)), (1, .ref (gB E + a1)), (2, .int x2), (3, .int x3), (4, .int x4)] → oX4_readCondition_12 rf_readAtom rc2 f a1 x2 x3 x4 σ = some r → W p l e (RM (hd + 4)) s m args below meth c H locs 0 0 (QI E below args s r.1 r.2) (F0 m 12 ls []) := by
  intro f
  induction f with
  | zero =>
    intro a1 x2 x3 x4 σ ls H locs X hk_a1 hl h
    rw [oX4_readCondition_12] at h
    cases h
  | succ f ih =>
    intro a1 x2 x3 x4 σ ls H locs X hk_a1 hl h
    rw [oX4_readCondition_12] at h
    refine lv_iload C.1 C.2.1 dX4_readCondition_12 (lv_at hl 4 rfl) ?_
    refine lv_sipush (v := 400) C.1 C.2.1 dX4_readCondition_14 (by decide) ?_
    refine lv_icmp_ge (tgt := 61) C.1 C.2.1 dX4_readCondition_17 (by decide) (fun c17 => ?_) (fun c17 => ?_)
    · replace h := ipos c17 h
      exact w_oX4_readCondition_61 C G h40 hc_readAtom hr2 X hk_a1 (lv_sub hl [0, 1, 2, 3] rfl) h
    · replace h := ineg c17 h
      refine lv_aload_n C.1 C.2.1 dX4_readCondition_20 rfl (lv_at hl 0 rfl) ?_
      refine lv_aload_n C.1 C.2.1 dX4_readCondition_21 rfl (lv_at hl 1 rfl) ?_
      refine lv_iload_n C.1 C.2.1 dX4_readCondition_22 rfl (lv_at hl 2 rfl) ?_
      obtain ⟨r23, σ23, e23, h⟩ := bnd2 h
      refine afI (r0 := r23) (σ' := σ23) X (runS C G X q_X4_readAtom k_1109 k_1108 (hc_readAtom hk_a1 e23) rfl hl.1 rfl (Nat.le_of_ble_eq_true rfl) ⟨by show _ ≤ hd + 4; omega, by show _ ≤ 48 * (hd + 4); omega⟩ ⟨Nat.le_of_ble_eq_true rfl, Nat.le_of_ble_eq_true rfl⟩ dX4_readCondition_23) (fun H locs X => ?_)
      refine lv_if_ne (tgt := 31) C.1 C.2.1 dX4_readCondition_26 (by decide) (fun c26 => ?_) (fun c26 => ?_)
      · replace h := ineg c26 h
        refine lv_iload C.1 C.2.1 dX4_readCondition_31 (lv_at hl 4 rfl) ?_
        refine lv_if_le (tgt := 42) C.1 C.2.1 dX4_readCondition_33 (by decide) (fun c33 => ?_) (fun c33 => ?_)
        · replace h := ipos c33 h
          exact w_oX4_readCondition_42 C G h40 hc_readAtom hr2 ih X hk_a1 (lv_sub hl [0, 1, 2, 3, 4] rfl) h
        · replace h := ineg c33 h
          refine lv_aload_n C.1 C.2.1 dX4_readCondition_36 rfl (lv_at hl 1 rfl) ?_
          refine lv_bipush (v := -5) C.1 C.2.1 dX4_readCondition_37 (by decide) ?_
          obtain ⟨σ39, e39, h⟩ := bnd h
          refine afV X (runV C G X q_X3_emit k_1120 k_1121 k_1119 (rcX3 G X hk_a1) (c_X3_emit l E hk_a1 e39) rfl hl.1 rfl (Nat.le_of_ble_eq_true rfl) ⟨by show _ ≤ hd + 4; omega, by show _ ≤ 48 * (hd + 4); omega⟩ ⟨Nat.le_of_ble_eq_true rfl, Nat.le_of_ble_eq_true rfl⟩ dX4_readCondition_39) (fun H locs X => ?_)
          exact w_oX4_readCondition_42 C G h40 hc_readAtom hr2 ih X hk_a1 (lv_sub hl [0, 1, 2, 3, 4] rfl) h
      · replace h := ipos c26 h
        refine lv_iconst (v := 0) C.1 C.2.1 dX4_readCondition_29 (by decide) ?_
        obtain ⟨u30, z30, h⟩ := bnd h
        rw [← Option.some.inj h]
        exact rtZ C X (gb_s z30) dX4_readCondition_30

set_option maxRecDepth 20000 in
theorem w_oX4_readCondition_2 {r : (Int32 × Mem)} {rf_readAtom : Nat → Int32 → Mem → Option (Int32 × Mem)} (C : Cx p s m args meth c cX4_readCondition (some .boolean) 5 RX4) (G : Gf E s) {hd : Nat} (h40 : 40 ≤ hd) (hc_readAtom : ∀ {σ : Mem} {a1 : Nat} {x2 : Int32} {r : Int32 × Mem} (_ : kd a1 = 3), rf_readAtom a1 x2 σ = some r → CtI l E yX4_readAtom cX4_readAtom 5 .boolean hd [.ref (gB E + 1), .ref (gB E + a1), .int x2] σ r.1 r.2) : ∀ (f : Nat) {a1 : Nat} {x2 : Int32} {x3 : Int32} {σ : Mem} {ls : Array Slot} {H : Heap} {locs : List Loc}, Hx E σ s H locs → kd a1 = 3 → lv_has ls 5 [(0, .ref (gB E + 1)), (1, .ref (gB E + a1)), (2, .int x2), (3, .int x3)] → oX4_readCondition_2 rf_readAtom f a1 x2 x3 σ = some r → W p l e (RM (hd + 4)) s m args below meth c H locs 0 0 (QI E below args s r.1 r.2) (F0 m 2 ls []) := by
  intro f
  induction f with
  | zero =>
    intro a1 x2 x3 σ ls H locs X hk_a1 hl h
    rw [oX4_readCondition_2] at h
    cases h
  | succ f ih =>
    intro a1 x2 x3 σ ls H locs X hk_a1 hl h
    rw [oX4_readCondition_2] at h
    refine lv_iload_n C.1 C.2.1 dX4_readCondition_2 rfl (lv_at hl 3 rfl) ?_
    refine lv_sipush (v := 400) C.1 C.2.1 dX4_readCondition_3 (by decide) ?_
    refine lv_icmp_ge (tgt := 90) C.1 C.2.1 dX4_readCondition_6 (by decide) (fun c6 => ?_) (fun c6 => ?_)
    · replace h := ipos c6 h
      refine lv_iconst (v := 1) C.1 C.2.1 dX4_readCondition_90 (by decide) ?_
      obtain ⟨u91, z91, h⟩ := bnd h
      rw [← Option.some.inj h]
      exact rtZ C X (gb_s z91) dX4_readCondition_91
    · replace h := ineg c6 h
      refine lv_iconst (v := 0) C.1 C.2.1 dX4_readCondition_9 (by decide) ?_
      refine lv_istore (lv' := [(4, .int (0 : Int32)), (0, .ref (gB E + 1)), (1, .ref (gB E + a1)), (2, .int x2), (3, .int x3)]) C.1 C.2.1 dX4_readCondition_10 hl (by decide) rfl (fun ls hl => ?_)
      exact w_oX4_readCondition_12 C G h40 hc_readAtom ih FU X hk_a1 (lv_sub hl [1, 2, 3, 4, 0] rfl) h

set_option maxRecDepth 20000 in
theorem w_oX4_readCondition {r : (Int32 × Mem)} {rf_readAtom : Nat → Int32 → Mem → Option (Int32 × Mem)} {σ : Mem} {a1 : Nat} {x2 : Int32} {ls : Array Slot} {H : Heap} {locs : List Loc} (C : Cx p s m args meth c cX4_readCondition (some .boolean) 5 RX4) (G : Gf E s) {hd : Nat} (h40 : 40 ≤ hd) (hc_readAtom : ∀ {σ : Mem} {a1 : Nat} {x2 : Int32} {r : Int32 × Mem} (_ : kd a1 = 3), rf_readAtom a1 x2 σ = some r → CtI l E yX4_readAtom cX4_readAtom 5 .boolean hd [.ref (gB E + 1), .ref (gB E + a1), .int x2] σ r.1 r.2) (X : Hx E σ s H locs) (hk_a1 : kd a1 = 3) (hl : lv_has ls 5 [(0, .ref (gB E + 1)), (1, .ref (gB E + a1)), (2, .int x2)]) (h : oX4_readCondition rf_readAtom a1 x2 σ = some r) : W p l e (RM (hd + 4)) s m args below meth c H locs 0 0 (QI E below args s r.1 r.2) (F0 m 0 ls []) := by
  rw [oX4_readCondition] at h
  refine lv_iconst (v := 0) C.1 C.2.1 dX4_readCondition_0 (by decide) ?_
  refine lv_istore_n (lv' := [(3, .int (0 : Int32)), (0, .ref (gB E + 1)), (1, .ref (gB E + a1)), (2, .int x2)]) C.1 C.2.1 dX4_readCondition_1 rfl hl (by decide) rfl (fun ls hl => ?_)
  exact w_oX4_readCondition_2 C G h40 hc_readAtom FU X hk_a1 (lv_sub hl [1, 2, 3, 0] rfl) h

theorem c_X4_readCondition_o (l : Launch) (E : GE) {rf_readAtom : Nat → Int32 → Mem → Option (Int32 × Mem)} {hd : Nat} (h40 : 40 ≤ hd) (hc_readAtom : ∀ {σ : Mem} {a1 : Nat} {x2 : Int32} {r : Int32 × Mem} (_ : kd a1 = 3), rf_readAtom a1 x2 σ = some r → CtI l E yX4_readAtom cX4_readAtom 5 .boolean hd [.ref (gB E + 1), .ref (gB E + a1), .int x2] σ r.1 r.2) {σ : Mem} {a1 : Nat} {x2 : Int32} (hk_a1 : kd a1 = 3) {r : (Int32 × Mem)} (h : oX4_readCondition rf_readAtom a1 x2 σ = some r) : CtI l E yX4_readCondition cX4_readCondition 5 .boolean (hd + 4) [.ref (gB E + 1), .ref (gB E + a1), .int x2] σ r.1 r.2 := by
  refine Met.ofW (cc := cX4_readCondition) (maxL := 5) (ret := (some .boolean)) (by decide) rfl ?_
  intro p e s m args below meth c s₁ B hml hv
  obtain ⟨rfl, G, X⟩ := start hv
  have C := cxof B hml
  have hl := lv_entry [.ref (gB E + 1), .ref (gB E + a1), .int x2] (n := 5) (Nat.le_of_ble_eq_true rfl)
  rw [lg_entry_eq]
  generalize (lg_sl [.ref (gB E + 1), .ref (gB E + a1), .int x2] ++ List.replicate (5 - (lg_sl [.ref (gB E + 1), .ref (gB E + a1), .int x2]).length) Slot.unset).toArray = ls at hl ⊢
  exact w_oX4_readCondition C G h40 hc_readAtom X hk_a1 hl h

theorem k_rc4 (l : Launch) (E : GE) : ∀ d : Nat, (∀ {σ : Mem} {a1 : Nat} {x2 : Int32} {r : Int32 × Mem} (_ : kd a1 = 3), (rc4 d).1 a1 x2 σ = some r → CtI l E yX4_readAtom cX4_readAtom 5 .boolean (40 + 4 * d) [.ref (gB E + 1), .ref (gB E + a1), .int x2] σ r.1 r.2) ∧ (∀ {σ : Mem} {a1 : Nat} {x2 : Int32} {r : Int32 × Mem} (_ : kd a1 = 3), (rc4 d).2 a1 x2 σ = some r → CtI l E yX4_readCondition cX4_readCondition 5 .boolean (40 + 4 * d) [.ref (gB E + 1), .ref (gB E + a1), .int x2] σ r.1 r.2) := by
  intro d
  induction d with
  | zero => exact ⟨fun _ h => by simp [rc4] at h, fun _ h => by simp [rc4] at h⟩
  | succ d ih =>
    obtain ⟨ih0, ih1⟩ := ih
    rw [show 40 + 4 * (d + 1) = (40 + 4 * d) + 4 by omega]
    refine ⟨?_, ?_⟩
    · intro σ a1 x2 r hk_a1 h
      exact c_X4_readAtom_o l E (hd := 40 + 4 * d) (by omega) ih1 ih0 hk_a1 h
    · intro σ a1 x2 r hk_a1 h
      exact c_X4_readCondition_o l E (hd := 40 + 4 * d) (by omega) ih0 hk_a1 h

theorem c_X4_readAtom (l : Launch) (E : GE) {σ : Mem} {a1 : Nat} {x2 : Int32} (hk_a1 : kd a1 = 3) {r : Int32 × Mem} (h : X4_readAtom a1 x2 σ = some r) : CtI l E yX4_readAtom cX4_readAtom 5 .boolean 200 [.ref (gB E + 1), .ref (gB E + a1), .int x2] σ r.1 r.2 := (k_rc4 l E 40).1 hk_a1 h

theorem c_X4_readCondition (l : Launch) (E : GE) {σ : Mem} {a1 : Nat} {x2 : Int32} (hk_a1 : kd a1 = 3) {r : Int32 × Mem} (h : X4_readCondition a1 x2 σ = some r) : CtI l E yX4_readCondition cX4_readCondition 5 .boolean 200 [.ref (gB E + 1), .ref (gB E + a1), .int x2] σ r.1 r.2 := (k_rc4 l E 40).2 hk_a1 h

set_option maxRecDepth 20000 in
theorem w_X3_endLine {r : Mem} {σ : Mem} {a0 : Nat} {ls : Array Slot} {H : Heap} {locs : List Loc} (C : Cx p s m args meth c cX3_endLine none 1 RX3) (G : Gf E s) (X : Hx E σ s H locs) (hk_a0 : kd a0 = 3) (hl : lv_has ls 1 [(0, .ref (gB E + a0))]) (h : X3_endLine a0 σ = some r) : W p l e (RM 2) s m args below meth c H locs 0 0 (QV E below args s r) (F0 m 0 ls []) := by
  rw [X3_endLine] at h
  refine lv_aload_n C.1 C.2.1 dX3_endLine_0 rfl (lv_at hl 0 rfl) ?_
  refine gfX3 C G X (k := a0) hk_a0 3 (v := .ref (gB E + (a0 + 5))) rfl rfl (by decide) k_318 rfl dX3_endLine_1 ?_
  refine lv_aload_n C.1 C.2.1 dX3_endLine_4 rfl (lv_at hl 0 rfl) ?_
  refine gfX3 C G X (k := a0) hk_a0 0 (v := .int (σ a0 0)) rfl rfl (by decide) k_314 rfl dX3_endLine_5 ?_
  refine lv_aload_n C.1 C.2.1 dX3_endLine_8 rfl (lv_at hl 0 rfl) ?_
  refine gfX3 C G X (k := a0) hk_a0 5 (v := .int (σ a0 5)) rfl rfl (by decide) k_320 rfl dX3_endLine_9 ?_
  obtain ⟨σ12, e12, h⟩ := bnd h
  refine afV X (runV C G X q_X6_set k_451 k_452 k_548 (rcX6 G X (kf_3_5 hk_a0)) (c_X6_set l E (kf_3_5 hk_a0) e12) rfl hl.1 rfl (Nat.le_of_ble_eq_true rfl) ⟨Nat.le_of_ble_eq_true rfl, Nat.le_of_ble_eq_true rfl⟩ ⟨Nat.le_of_ble_eq_true rfl, Nat.le_of_ble_eq_true rfl⟩ dX3_endLine_12) (fun H locs X => ?_)
  refine lv_aload_n C.1 C.2.1 dX3_endLine_15 rfl (lv_at hl 0 rfl) ?_
  refine lv_dup C.1 C.2.1 dX3_endLine_16 rfl ?_
  refine gfX3 C G X (k := a0) hk_a0 0 (v := .int (σ12 a0 0)) rfl rfl (by decide) k_314 rfl dX3_endLine_17 ?_
  refine lv_iconst (v := 1) C.1 C.2.1 dX3_endLine_20 (by decide) ?_
  refine lv_iadd C.1 C.2.1 dX3_endLine_21 ?_
  obtain ⟨σ22, e22, h⟩ := bnd h
  refine pfX3 C G X (k := a0) hk_a0 0 (x := ((σ12 a0 0) + (1 : Int32))) (ty := .int) rfl rfl (Nat.le_of_ble_eq_true rfl) (by decide) k_314 rfl rfl (by decide +kernel) rfl rfl dX3_endLine_22 (fun H locs X => ?_)
  replace X := pu_x e22 X
  rw [← Option.some.inj h]
  exact rtV C X dX3_endLine_25

theorem c_X3_endLine (l : Launch) (E : GE) {σ : Mem} {a0 : Nat} (hk_a0 : kd a0 = 3) {r : Mem} (h : X3_endLine a0 σ = some r) : CtV l E yX3_endLine cX3_endLine 1 2 [.ref (gB E + a0)] σ r := by
  refine Met.ofW (cc := cX3_endLine) (maxL := 1) (ret := none) (by decide) rfl ?_
  intro p e s m args below meth c s₁ B hml hv
  obtain ⟨rfl, G, X⟩ := start hv
  have C := cxof B hml
  have hl := lv_entry [.ref (gB E + a0)] (n := 1) (Nat.le_of_ble_eq_true rfl)
  rw [lg_entry_eq]
  generalize (lg_sl [.ref (gB E + a0)] ++ List.replicate (1 - (lg_sl [.ref (gB E + a0)]).length) Slot.unset).toArray = ls at hl ⊢
  exact w_X3_endLine C G X hk_a0 hl h

set_option maxRecDepth 20000 in
theorem w_X4_readLine_105 {r : (Int32 × Mem)} {σ : Mem} {a1 : Nat} {ls : Array Slot} {H : Heap} {locs : List Loc} (C : Cx p s m args meth c cX4_readLine (some .boolean) 4 RX4) (G : Gf E s) (X : Hx E σ s H locs) (hk_a1 : kd a1 = 3) (hl : lv_has ls 4 [(1, .ref (gB E + a1))]) (h : X4_readLine_105 a1 σ = some r) : W p l e (RM 201) s m args below meth c H locs 0 0 (QI E below args s r.1 r.2) (F0 m 105 ls []) := by
  rw [X4_readLine_105] at h
  refine lv_aload_n C.1 C.2.1 dX4_readLine_105 rfl (lv_at hl 0 rfl) ?_
  obtain ⟨σ106, e106, h⟩ := bnd h
  refine afV X (runV C G X q_X3_endLine k_1149 k_1150 k_1148 (rcX3 G X hk_a1) (c_X3_endLine l E hk_a1 e106) rfl hl.1 rfl (Nat.le_of_ble_eq_true rfl) ⟨Nat.le_of_ble_eq_true rfl, Nat.le_of_ble_eq_true rfl⟩ ⟨Nat.le_of_ble_eq_true rfl, Nat.le_of_ble_eq_true rfl⟩ dX4_readLine_106) (fun H locs X => ?_)
  refine lv_iconst (v := 1) C.1 C.2.1 dX4_readLine_109 (by decide) ?_
  obtain ⟨u110, z110, h⟩ := bnd h
  rw [← Option.some.inj h]
  exact rtZ C X (gb_s z110) dX4_readLine_110

set_option maxRecDepth 20000 in
theorem w_X4_readLine_81 {r : (Int32 × Mem)} {σ : Mem} {a1 : Nat} {b0 : Nat} {y1 : Int32} {y2 : Int32} {ls : Array Slot} {H : Heap} {locs : List Loc} (C : Cx p s m args meth c cX4_readLine (some .boolean) 4 RX4) (G : Gf E s) (X : Hx E σ s H locs) (hk_a1 : kd a1 = 3) (hk_b0 : kd b0 = 3) (hl : lv_has ls 4 [(0, .ref (gB E + 1)), (1, .ref (gB E + a1))]) (h : X4_readLine_81 a1 b0 y1 y2 σ = some r) : W p l e (RM 201) s m args below meth c H locs 0 0 (QI E below args s r.1 r.2) (F0 m 81 ls [.int y2, .int y1, .ref (gB E + b0)]) := by
  rw [X4_readLine_81] at h
  obtain ⟨σ81, e81, h⟩ := bnd h
  refine afV X (runV C G X q_X3_beginLine k_1100 k_1101 k_1099 (rcX3 G X hk_b0) (c_X3_beginLine l E hk_b0 e81) rfl hl.1 rfl (Nat.le_of_ble_eq_true rfl) ⟨Nat.le_of_ble_eq_true rfl, Nat.le_of_ble_eq_true rfl⟩ ⟨Nat.le_of_ble_eq_true rfl, Nat.le_of_ble_eq_true rfl⟩ dX4_readLine_81) (fun H locs X => ?_)
  refine lv_aload_n C.1 C.2.1 dX4_readLine_84 rfl (lv_at hl 0 rfl) ?_
  refine gsT C G X (i := 28) (x := 29) (by decide) (by decide) (nm := "IF") rfl k_1103 dX4_readLine_85 ?_
  obtain ⟨r88, σ88, e88, h⟩ := bnd2 h
  refine afI (r0 := r88) (σ' := σ88) X (runV C G X q_X10_take k_914 k_915 k_1092 (rcX10 G X kd_1) (c_X10_take l E e88) rfl hl.1 rfl (Nat.le_of_ble_eq_true rfl) ⟨Nat.le_of_ble_eq_true rfl, Nat.le_of_ble_eq_true rfl⟩ ⟨Nat.le_of_ble_eq_true rfl, Nat.le_of_ble_eq_true rfl⟩ dX4_readLine_88) (fun H locs X => ?_)
  refine lv_if_eq (tgt := 105) C.1 C.2.1 dX4_readLine_91 (by decide) (fun c91 => ?_) (fun c91 => ?_)
  · replace h := ipos c91 h
    exact w_X4_readLine_105 C G X hk_a1 (lv_sub hl [1] rfl) h
  · replace h := ineg c91 h
    refine lv_aload_n C.1 C.2.1 dX4_readLine_94 rfl (lv_at hl 0 rfl) ?_
    refine lv_aload_n C.1 C.2.1 dX4_readLine_95 rfl (lv_at hl 1 rfl) ?_
    refine lv_iconst (v := 0) C.1 C.2.1 dX4_readLine_96 (by decide) ?_
    obtain ⟨r97, σ97, e97, h⟩ := bnd2 h
    refine afI (r0 := r97) (σ' := σ97) X (runS C G X q_X4_readCondition k_1106 k_1105 (c_X4_readCondition l E hk_a1 e97) rfl hl.1 rfl (Nat.le_of_ble_eq_true rfl) ⟨Nat.le_of_ble_eq_true rfl, Nat.le_of_ble_eq_true rfl⟩ ⟨Nat.le_of_ble_eq_true rfl, Nat.le_of_ble_eq_true rfl⟩ dX4_readLine_97) (fun H locs X => ?_)
    refine lv_if_ne (tgt := 105) C.1 C.2.1 dX4_readLine_100 (by decide) (fun c100 => ?_) (fun c100 => ?_)
    · replace h := ineg c100 h
      exact w_X4_readLine_105 C G X hk_a1 (lv_sub hl [1] rfl) h
    · replace h := ipos c100 h
      refine lv_iconst (v := 0) C.1 C.2.1 dX4_readLine_103 (by decide) ?_
      obtain ⟨u104, z104, h⟩ := bnd h
      rw [← Option.some.inj h]
      exact rtZ C X (gb_s z104) dX4_readLine_104

set_option maxRecDepth 20000 in
theorem w_X4_readLine_69 {r : (Int32 × Mem)} {σ : Mem} {a1 : Nat} {t2 : Int32} {b0 : Nat} {y1 : Int32} {ls : Array Slot} {H : Heap} {locs : List Loc} (C : Cx p s m args meth c cX4_readLine (some .boolean) 4 RX4) (G : Gf E s) (X : Hx E σ s H locs) (hk_a1 : kd a1 = 3) (hk_b0 : kd b0 = 3) (hl : lv_has ls 4 [(0, .ref (gB E + 1)), (1, .ref (gB E + a1)), (2, tV E t2)]) (h : X4_readLine_69 a1 t2 b0 y1 σ = some r) : W p l e (RM 201) s m args below meth c H locs 0 0 (QI E below args s r.1 r.2) (F0 m 69 ls [.int y1, .ref (gB E + b0)]) := by
  rw [X4_readLine_69] at h
  refine lq_aload_n C.1 C.2.1 dX4_readLine_69 rfl (lv_at hl 2 rfl) ?_
  refine gsT C G X (i := 27) (x := 28) (by decide) (by decide) (nm := "PASS") rfl k_1096 dX4_readLine_70 ?_
  obtain ⟨u73, z73, h⟩ := bnd h
  refine ac_ne (tgt := 80) C G z73 dX4_readLine_73 (by decide) (fun c73 => ?_) (fun c73 => ?_)
  · replace h := ineg c73 h
    refine lv_iconst (v := 0) C.1 C.2.1 dX4_readLine_80 (by decide) ?_
    exact w_X4_readLine_81 C G X hk_a1 hk_b0 (lv_sub hl [0, 1] rfl) h
  · replace h := ipos c73 h
    refine lv_iconst (v := 1) C.1 C.2.1 dX4_readLine_76 (by decide) ?_
    refine lv_goto (tgt := 81) C.1 C.2.1 dX4_readLine_77 (by decide) ?_
    exact w_X4_readLine_81 C G X hk_a1 hk_b0 (lv_sub hl [0, 1] rfl) h

set_option maxRecDepth 20000 in
theorem w_X4_readLine_49 {r : (Int32 × Mem)} {σ : Mem} {a1 : Nat} {t2 : Int32} {x3 : Int32} {ls : Array Slot} {H : Heap} {locs : List Loc} (C : Cx p s m args meth c cX4_readLine (some .boolean) 4 RX4) (G : Gf E s) (X : Hx E σ s H locs) (hk_a1 : kd a1 = 3) (hl : lv_has ls 4 [(0, .ref (gB E + 1)), (1, .ref (gB E + a1)), (2, tV E t2), (3, .int x3)]) (h : X4_readLine_49 a1 t2 x3 σ = some r) : W p l e (RM 201) s m args below meth c H locs 0 0 (QI E below args s r.1 r.2) (F0 m 49 ls []) := by
  rw [X4_readLine_49] at h
  refine lv_iload_n C.1 C.2.1 dX4_readLine_49 rfl (lv_at hl 3 rfl) ?_
  refine lv_if_ge (tgt := 55) C.1 C.2.1 dX4_readLine_50 (by decide) (fun c50 => ?_) (fun c50 => ?_)
  · replace h := ipos c50 h
    refine lv_aload_n C.1 C.2.1 dX4_readLine_55 rfl (lv_at hl 1 rfl) ?_
    refine lq_aload_n C.1 C.2.1 dX4_readLine_56 rfl (lv_at hl 2 rfl) ?_
    refine gsT C G X (i := 25) (x := 26) (by decide) (by decide) (nm := "KIND") rfl k_1090 dX4_readLine_57 ?_
    obtain ⟨u60, z60, h⟩ := bnd h
    refine ac_ne (tgt := 67) C G z60 dX4_readLine_60 (by decide) (fun c60 => ?_) (fun c60 => ?_)
    · replace h := ineg c60 h
      refine lv_iload_n C.1 C.2.1 dX4_readLine_67 rfl (lv_at hl 3 rfl) ?_
      refine lv_ineg C.1 C.2.1 dX4_readLine_68 ?_
      exact w_X4_readLine_69 C G X hk_a1 hk_a1 (lv_sub hl [0, 1, 2] rfl) h
    · replace h := ipos c60 h
      refine lv_iload_n C.1 C.2.1 dX4_readLine_63 rfl (lv_at hl 3 rfl) ?_
      refine lv_goto (tgt := 69) C.1 C.2.1 dX4_readLine_64 (by decide) ?_
      exact w_X4_readLine_69 C G X hk_a1 hk_a1 (lv_sub hl [0, 1, 2] rfl) h
  · replace h := ineg c50 h
    refine lv_iconst (v := 0) C.1 C.2.1 dX4_readLine_53 (by decide) ?_
    obtain ⟨u54, z54, h⟩ := bnd h
    rw [← Option.some.inj h]
    exact rtZ C X (gb_s z54) dX4_readLine_54

set_option maxRecDepth 20000 in
theorem w_X4_readLine_27 {r : (Int32 × Mem)} {σ : Mem} {a1 : Nat} {t2 : Int32} {ls : Array Slot} {H : Heap} {locs : List Loc} (C : Cx p s m args meth c cX4_readLine (some .boolean) 4 RX4) (G : Gf E s) (X : Hx E σ s H locs) (hk_a1 : kd a1 = 3) (hl : lv_has ls 4 [(0, .ref (gB E + 1)), (1, .ref (gB E + a1)), (2, tV E t2)]) (h : X4_readLine_27 a1 t2 σ = some r) : W p l e (RM 201) s m args below meth c H locs 0 0 (QI E below args s r.1 r.2) (F0 m 27 ls []) := by
  rw [X4_readLine_27] at h
  refine lv_aload_n C.1 C.2.1 dX4_readLine_27 rfl (lv_at hl 0 rfl) ?_
  refine lv_bipush (v := 20) C.1 C.2.1 dX4_readLine_28 (by decide) ?_
  obtain ⟨r30, σ30, e30, h⟩ := bnd2 h
  refine afI (r0 := r30) (σ' := σ30) X (runV C G X q_X10_needUpTo k_931 k_932 k_1095 (rcX10 G X kd_1) (c_X10_needUpTo l E e30) rfl hl.1 rfl (Nat.le_of_ble_eq_true rfl) ⟨Nat.le_of_ble_eq_true rfl, Nat.le_of_ble_eq_true rfl⟩ ⟨Nat.le_of_ble_eq_true rfl, Nat.le_of_ble_eq_true rfl⟩ dX4_readLine_30) (fun H locs X => ?_)
  refine lv_istore_n (i := 3) (lv' := [(3, .int r30), (0, .ref (gB E + 1)), (1, .ref (gB E + a1)), (2, tV E t2)]) C.1 C.2.1 dX4_readLine_33 rfl hl (by decide) (by simp [List.filter, tV_cat, oV_cat]) (fun ls hl => ?_)
  refine lv_goto (tgt := 49) C.1 C.2.1 dX4_readLine_34 (by decide) ?_
  exact w_X4_readLine_49 C G X hk_a1 (lv_sub hl [1, 2, 3, 0] rfl) h

set_option maxRecDepth 20000 in
theorem w_X4_readLine {r : (Int32 × Mem)} {σ : Mem} {a1 : Nat} {ls : Array Slot} {H : Heap} {locs : List Loc} (C : Cx p s m args meth c cX4_readLine (some .boolean) 4 RX4) (G : Gf E s) (X : Hx E σ s H locs) (hk_a1 : kd a1 = 3) (hl : lv_has ls 4 [(0, .ref (gB E + 1)), (1, .ref (gB E + a1))]) (h : X4_readLine a1 σ = some r) : W p l e (RM 201) s m args below meth c H locs 0 0 (QI E below args s r.1 r.2) (F0 m 0 ls []) := by
  rw [X4_readLine] at h
  refine lv_aload_n C.1 C.2.1 dX4_readLine_0 rfl (lv_at hl 0 rfl) ?_
  obtain ⟨r1, e1, h⟩ := bnd h
  refine afQ X (runV C G X q_X10_term k_904 k_905 k_1089 (rcX10 G X kd_1) (c_X10_term l E e1) rfl hl.1 rfl (Nat.le_of_ble_eq_true rfl) ⟨Nat.le_of_ble_eq_true rfl, Nat.le_of_ble_eq_true rfl⟩ ⟨Nat.le_of_ble_eq_true rfl, Nat.le_of_ble_eq_true rfl⟩ dX4_readLine_1) (fun H locs X => ?_)
  refine lq_astore_n (lv' := [(2, tV E r1), (0, .ref (gB E + 1)), (1, .ref (gB E + a1))]) C.1 C.2.1 dX4_readLine_4 rfl hl (by decide) rfl (fun ls hl => ?_)
  refine lv_iconst (v := 0) C.1 C.2.1 dX4_readLine_5 (by decide) ?_
  refine lv_istore_n (i := 3) (lv' := [(3, .int (0 : Int32)), (2, tV E r1), (0, .ref (gB E + 1)), (1, .ref (gB E + a1))]) C.1 C.2.1 dX4_readLine_6 rfl hl (by decide) (by simp [List.filter, tV_cat, oV_cat]) (fun ls hl => ?_)
  refine lv_aload_n C.1 C.2.1 dX4_readLine_7 rfl (lv_at hl 2 rfl) ?_
  refine gsT C G X (i := 25) (x := 26) (by decide) (by decide) (nm := "KIND") rfl k_1090 dX4_readLine_8 ?_
  obtain ⟨r11, σ11, e11, h⟩ := bnd2 h
  refine afI (r0 := r11) (σ' := σ11) X (runV C G X q_X10_take k_914 k_915 k_1092 (rcX10 G X kd_1) (c_X10_take l E e11) rfl hl.1 rfl (Nat.le_of_ble_eq_true rfl) ⟨Nat.le_of_ble_eq_true rfl, Nat.le_of_ble_eq_true rfl⟩ ⟨Nat.le_of_ble_eq_true rfl, Nat.le_of_ble_eq_true rfl⟩ dX4_readLine_11) (fun H locs X => ?_)
  refine lv_if_ne (tgt := 27) C.1 C.2.1 dX4_readLine_14 (by decide) (fun c14 => ?_) (fun c14 => ?_)
  · replace h := ineg c14 h
    exact w_X4_readLine_27 C G X hk_a1 (lv_sub hl [2, 3, 1] rfl) h
  · replace h := ipos c14 h
    refine lv_aload_n C.1 C.2.1 dX4_readLine_17 rfl (lv_at hl 2 rfl) ?_
    refine gsT C G X (i := 26) (x := 27) (by decide) (by decide) (nm := "COLD") rfl k_1093 dX4_readLine_18 ?_
    obtain ⟨r21, σ21, e21, h⟩ := bnd2 h
    refine afI (r0 := r21) (σ' := σ21) X (runV C G X q_X10_take k_914 k_915 k_1092 (rcX10 G X kd_1) (c_X10_take l E e21) rfl hl.1 rfl (Nat.le_of_ble_eq_true rfl) ⟨Nat.le_of_ble_eq_true rfl, Nat.le_of_ble_eq_true rfl⟩ ⟨Nat.le_of_ble_eq_true rfl, Nat.le_of_ble_eq_true rfl⟩ dX4_readLine_21) (fun H locs X => ?_)
    refine lv_if_eq (tgt := 37) C.1 C.2.1 dX4_readLine_24 (by decide) (fun c24 => ?_) (fun c24 => ?_)
    · replace h := ipos c24 h
      refine lv_aload_n C.1 C.2.1 dX4_readLine_37 rfl (lv_at hl 2 rfl) ?_
      refine gsT C G X (i := 27) (x := 28) (by decide) (by decide) (nm := "PASS") rfl k_1096 dX4_readLine_38 ?_
      obtain ⟨r41, σ41, e41, h⟩ := bnd2 h
      refine afI (r0 := r41) (σ' := σ41) X (runV C G X q_X10_need k_910 k_911 k_1098 (rcX10 G X kd_1) (c_X10_need l E e41) rfl hl.1 rfl (Nat.le_of_ble_eq_true rfl) ⟨Nat.le_of_ble_eq_true rfl, Nat.le_of_ble_eq_true rfl⟩ ⟨Nat.le_of_ble_eq_true rfl, Nat.le_of_ble_eq_true rfl⟩ dX4_readLine_41) (fun H locs X => ?_)
      refine lv_if_ne (tgt := 49) C.1 C.2.1 dX4_readLine_44 (by decide) (fun c44 => ?_) (fun c44 => ?_)
      · replace h := ineg c44 h
        exact w_X4_readLine_49 C G X hk_a1 (lv_sub hl [2, 3, 1, 0] rfl) h
      · replace h := ipos c44 h
        refine lv_iconst (v := -1) C.1 C.2.1 dX4_readLine_47 (by decide) ?_
        refine lv_istore_n (i := 3) (lv' := [(3, .int (-1 : Int32)), (2, tV E r1), (0, .ref (gB E + 1)), (1, .ref (gB E + a1))]) C.1 C.2.1 dX4_readLine_48 rfl hl (by decide) (by simp [List.filter, tV_cat, oV_cat]) (fun ls hl => ?_)
        exact w_X4_readLine_49 C G X hk_a1 (lv_sub hl [2, 3, 1, 0] rfl) h
    · replace h := ineg c24 h
      exact w_X4_readLine_27 C G X hk_a1 (lv_sub hl [2, 3, 1] rfl) h

theorem c_X4_readLine (l : Launch) (E : GE) {σ : Mem} {a1 : Nat} (hk_a1 : kd a1 = 3) {r : (Int32 × Mem)} (h : X4_readLine a1 σ = some r) : CtI l E yX4_readLine cX4_readLine 4 .boolean 201 [.ref (gB E + 1), .ref (gB E + a1)] σ r.1 r.2 := by
  refine Met.ofW (cc := cX4_readLine) (maxL := 4) (ret := (some .boolean)) (by decide) rfl ?_
  intro p e s m args below meth c s₁ B hml hv
  obtain ⟨rfl, G, X⟩ := start hv
  have C := cxof B hml
  have hl := lv_entry [.ref (gB E + 1), .ref (gB E + a1)] (n := 4) (Nat.le_of_ble_eq_true rfl)
  rw [lg_entry_eq]
  generalize (lg_sl [.ref (gB E + 1), .ref (gB E + a1)] ++ List.replicate (4 - (lg_sl [.ref (gB E + 1), .ref (gB E + a1)]).length) Slot.unset).toArray = ls at hl ⊢
  exact w_X4_readLine C G X hk_a1 hl h

set_option maxRecDepth 20000 in
theorem w_X4_readAll_34 {r : (Int32 × Mem)} {σ : Mem} {ls : Array Slot} {H : Heap} {locs : List Loc} (C : Cx p s m args meth c cX4_readAll (some .boolean) 3 RX4) (G : Gf E s) (X : Hx E σ s H locs) (hl : lv_has ls 3 [(0, .ref (gB E + 1))]) (h : X4_readAll_34 σ = some r) : W p l e (RM 202) s m args below meth c H locs 0 0 (QI E below args s r.1 r.2) (F0 m 34 ls []) := by
  rw [X4_readAll_34] at h
  refine lv_aload_n C.1 C.2.1 dX4_readAll_34 rfl (lv_at hl 0 rfl) ?_
  refine gfX10 C G X (k := 1) kd_1 6 (v := .int (σ 1 6)) rfl rfl (by decide) k_173 rfl dX4_readAll_35 ?_
  refine lv_iconst (v := -1) C.1 C.2.1 dX4_readAll_38 (by decide) ?_
  refine lv_icmp_ne (tgt := 46) C.1 C.2.1 dX4_readAll_39 (by decide) (fun c39 => ?_) (fun c39 => ?_)
  · replace h := ineg c39 h
    refine lv_iconst (v := 0) C.1 C.2.1 dX4_readAll_46 (by decide) ?_
    obtain ⟨u47, z47, h⟩ := bnd h
    rw [← Option.some.inj h]
    exact rtZ C X (gb_s z47) dX4_readAll_47
  · replace h := ipos c39 h
    refine lv_iconst (v := 1) C.1 C.2.1 dX4_readAll_42 (by decide) ?_
    refine lv_goto (tgt := 47) C.1 C.2.1 dX4_readAll_43 (by decide) ?_
    obtain ⟨u47, z47, h⟩ := bnd h
    rw [← Option.some.inj h]
    exact rtZ C X (gb_s z47) dX4_readAll_47

set_option maxRecDepth 20000 in
theorem w_X4_readAll_2 {r : (Int32 × Mem)} (C : Cx p s m args meth c cX4_readAll (some .boolean) 3 RX4) (G : Gf E s) : ∀ (f : Nat) {a1 : Nat} {x2 : Int32} {σ : Mem} {ls : Array Slot} {H : Heap} {locs : List Loc}, Hx E σ s H locs → kd a1 = 3 → lv_has ls 3 [(0, .ref (gB E + 1)), (1, .ref (gB E + a1)), (2, .int x2)] → X4_readAll_2 f a1 x2 σ = some r → W p l e (RM 202) s m args below meth c H locs 0 0 (QI E below args s r.1 r.2) (F0 m 2 ls []) := by
  intro f
  induction f with
  | zero =>
    intro a1 x2 σ ls H locs X hk_a1 hl h
    rw [X4_readAll_2] at h
    cases h
  | succ f ih =>
    intro a1 x2 σ ls H locs X hk_a1 hl h
    rw [X4_readAll_2] at h
    refine lv_iload_n C.1 C.2.1 dX4_readAll_2 rfl (lv_at hl 2 rfl) ?_
    refine lv_bipush (v := 12) C.1 C.2.1 dX4_readAll_3 (by decide) ?_
    refine lv_icmp_gt (tgt := 34) C.1 C.2.1 dX4_readAll_5 (by decide) (fun c5 => ?_) (fun c5 => ?_)
    · replace h := ipos c5 h
      exact w_X4_readAll_34 C G X (lv_sub hl [0] rfl) h
    · replace h := ineg c5 h
      refine lv_aload_n C.1 C.2.1 dX4_readAll_8 rfl (lv_at hl 0 rfl) ?_
      refine lv_iload_n C.1 C.2.1 dX4_readAll_9 rfl (lv_at hl 2 rfl) ?_
      refine lv_bipush (v := 12) C.1 C.2.1 dX4_readAll_10 (by decide) ?_
      obtain ⟨r12, σ12, e12, h⟩ := bnd2 h
      refine afI (r0 := r12) (σ' := σ12) X (runV C G X q_X10_hasLine k_896 k_897 k_1085 (rcX10 G X kd_1) (c_X10_hasLine l E e12) rfl hl.1 rfl (Nat.le_of_ble_eq_true rfl) ⟨Nat.le_of_ble_eq_true rfl, Nat.le_of_ble_eq_true rfl⟩ ⟨Nat.le_of_ble_eq_true rfl, Nat.le_of_ble_eq_true rfl⟩ dX4_readAll_12) (fun H locs X => ?_)
      refine lv_if_eq (tgt := 34) C.1 C.2.1 dX4_readAll_15 (by decide) (fun c15 => ?_) (fun c15 => ?_)
      · replace h := ipos c15 h
        exact w_X4_readAll_34 C G X (lv_sub hl [0] rfl) h
      · replace h := ineg c15 h
        refine lv_aload_n C.1 C.2.1 dX4_readAll_18 rfl (lv_at hl 0 rfl) ?_
        refine lv_aload_n C.1 C.2.1 dX4_readAll_19 rfl (lv_at hl 1 rfl) ?_
        obtain ⟨r20, σ20, e20, h⟩ := bnd2 h
        refine afI (r0 := r20) (σ' := σ20) X (runS C G X q_X4_readLine k_1087 k_1086 (c_X4_readLine l E hk_a1 e20) rfl hl.1 rfl (Nat.le_of_ble_eq_true rfl) ⟨Nat.le_of_ble_eq_true rfl, Nat.le_of_ble_eq_true rfl⟩ ⟨Nat.le_of_ble_eq_true rfl, Nat.le_of_ble_eq_true rfl⟩ dX4_readAll_20) (fun H locs X => ?_)
        refine lv_if_ne (tgt := 28) C.1 C.2.1 dX4_readAll_23 (by decide) (fun c23 => ?_) (fun c23 => ?_)
        · replace h := ineg c23 h
          refine lv_iinc (v := (x2 + 1)) (lv' := [(2, .int (x2 + 1)), (0, .ref (gB E + 1)), (1, .ref (gB E + a1))]) C.1 C.2.1 dX4_readAll_28 hl (k := 2) rfl rfl (by decide) rfl (fun ls hl => ?_)
          refine lv_goto (tgt := 2) C.1 C.2.1 dX4_readAll_31 (by decide) ?_
          exact ih X hk_a1 (lv_sub hl [1, 2, 0] rfl) h
        · replace h := ipos c23 h
          refine lv_iconst (v := 0) C.1 C.2.1 dX4_readAll_26 (by decide) ?_
          obtain ⟨u27, z27, h⟩ := bnd h
          rw [← Option.some.inj h]
          exact rtZ C X (gb_s z27) dX4_readAll_27

set_option maxRecDepth 20000 in
theorem w_X4_readAll {r : (Int32 × Mem)} {σ : Mem} {a1 : Nat} {ls : Array Slot} {H : Heap} {locs : List Loc} (C : Cx p s m args meth c cX4_readAll (some .boolean) 3 RX4) (G : Gf E s) (X : Hx E σ s H locs) (hk_a1 : kd a1 = 3) (hl : lv_has ls 3 [(0, .ref (gB E + 1)), (1, .ref (gB E + a1))]) (h : X4_readAll a1 σ = some r) : W p l e (RM 202) s m args below meth c H locs 0 0 (QI E below args s r.1 r.2) (F0 m 0 ls []) := by
  rw [X4_readAll] at h
  refine lv_iconst (v := 0) C.1 C.2.1 dX4_readAll_0 (by decide) ?_
  refine lv_istore_n (lv' := [(2, .int (0 : Int32)), (0, .ref (gB E + 1)), (1, .ref (gB E + a1))]) C.1 C.2.1 dX4_readAll_1 rfl hl (by decide) rfl (fun ls hl => ?_)
  exact w_X4_readAll_2 C G FU X hk_a1 (lv_sub hl [1, 2, 0] rfl) h

theorem c_X4_readAll (l : Launch) (E : GE) {σ : Mem} {a1 : Nat} (hk_a1 : kd a1 = 3) {r : (Int32 × Mem)} (h : X4_readAll a1 σ = some r) : CtI l E yX4_readAll cX4_readAll 3 .boolean 202 [.ref (gB E + 1), .ref (gB E + a1)] σ r.1 r.2 := by
  refine Met.ofW (cc := cX4_readAll) (maxL := 3) (ret := (some .boolean)) (by decide) rfl ?_
  intro p e s m args below meth c s₁ B hml hv
  obtain ⟨rfl, G, X⟩ := start hv
  have C := cxof B hml
  have hl := lv_entry [.ref (gB E + 1), .ref (gB E + a1)] (n := 3) (Nat.le_of_ble_eq_true rfl)
  rw [lg_entry_eq]
  generalize (lg_sl [.ref (gB E + 1), .ref (gB E + a1)] ++ List.replicate (3 - (lg_sl [.ref (gB E + 1), .ref (gB E + a1)]).length) Slot.unset).toArray = ls at hl ⊢
  exact w_X4_readAll C G X hk_a1 hl h

set_option maxRecDepth 20000 in
theorem w_X3_copyFrom {r : Mem} {σ : Mem} {a0 : Nat} {a1 : Nat} {ls : Array Slot} {H : Heap} {locs : List Loc} (C : Cx p s m args meth c cX3_copyFrom none 2 RX3) (G : Gf E s) (X : Hx E σ s H locs) (hk_a0 : kd a0 = 3) (hk_a1 : kd a1 = 3) (hl : lv_has ls 2 [(0, .ref (gB E + a0)), (1, .ref (gB E + a1))]) (h : X3_copyFrom a0 a1 σ = some r) : W p l e (RM 3) s m args below meth c H locs 0 0 (QV E below args s r) (F0 m 0 ls []) := by
  rw [X3_copyFrom] at h
  refine lv_aload_n C.1 C.2.1 dX3_copyFrom_0 rfl (lv_at hl 0 rfl) ?_
  refine lv_aload_n C.1 C.2.1 dX3_copyFrom_1 rfl (lv_at hl 1 rfl) ?_
  refine gfX3 C G X (k := a1) hk_a1 0 (v := .int (σ a1 0)) rfl rfl (by decide) k_314 rfl dX3_copyFrom_2 ?_
  obtain ⟨σ5, e5, h⟩ := bnd h
  refine pfX3 C G X (k := a0) hk_a0 0 (x := (σ a1 0)) (ty := .int) rfl rfl (Nat.le_of_ble_eq_true rfl) (by decide) k_314 rfl rfl (by decide +kernel) rfl rfl dX3_copyFrom_5 (fun H locs X => ?_)
  replace X := pu_x e5 X
  refine lv_aload_n C.1 C.2.1 dX3_copyFrom_8 rfl (lv_at hl 0 rfl) ?_
  refine gfX3 C G X (k := a0) hk_a0 1 (v := .ref (gB E + (a0 + 1))) rfl rfl (by decide) k_316 rfl dX3_copyFrom_9 ?_
  refine lv_aload_n C.1 C.2.1 dX3_copyFrom_12 rfl (lv_at hl 1 rfl) ?_
  refine gfX3 C G X (k := a1) hk_a1 1 (v := .ref (gB E + (a1 + 1))) rfl rfl (by decide) k_316 rfl dX3_copyFrom_13 ?_
  obtain ⟨σ16, e16, h⟩ := bnd h
  refine afV X (runV C G X q_X6_copyFrom k_475 k_476 k_764 (rcX6 G X (kf_3_1 hk_a0)) (c_X6_copyFrom l E (kf_3_1 hk_a0) (kf_3_1 hk_a1) e16) rfl hl.1 rfl (Nat.le_of_ble_eq_true rfl) ⟨Nat.le_of_ble_eq_true rfl, Nat.le_of_ble_eq_true rfl⟩ ⟨Nat.le_of_ble_eq_true rfl, Nat.le_of_ble_eq_true rfl⟩ dX3_copyFrom_16) (fun H locs X => ?_)
  refine lv_aload_n C.1 C.2.1 dX3_copyFrom_19 rfl (lv_at hl 0 rfl) ?_
  refine gfX3 C G X (k := a0) hk_a0 2 (v := .ref (gB E + (a0 + 3))) rfl rfl (by decide) k_317 rfl dX3_copyFrom_20 ?_
  refine lv_aload_n C.1 C.2.1 dX3_copyFrom_23 rfl (lv_at hl 1 rfl) ?_
  refine gfX3 C G X (k := a1) hk_a1 2 (v := .ref (gB E + (a1 + 3))) rfl rfl (by decide) k_317 rfl dX3_copyFrom_24 ?_
  obtain ⟨σ27, e27, h⟩ := bnd h
  refine afV X (runV C G X q_X6_copyFrom k_475 k_476 k_764 (rcX6 G X (kf_3_3 hk_a0)) (c_X6_copyFrom l E (kf_3_3 hk_a0) (kf_3_3 hk_a1) e27) rfl hl.1 rfl (Nat.le_of_ble_eq_true rfl) ⟨Nat.le_of_ble_eq_true rfl, Nat.le_of_ble_eq_true rfl⟩ ⟨Nat.le_of_ble_eq_true rfl, Nat.le_of_ble_eq_true rfl⟩ dX3_copyFrom_27) (fun H locs X => ?_)
  refine lv_aload_n C.1 C.2.1 dX3_copyFrom_30 rfl (lv_at hl 0 rfl) ?_
  refine gfX3 C G X (k := a0) hk_a0 3 (v := .ref (gB E + (a0 + 5))) rfl rfl (by decide) k_318 rfl dX3_copyFrom_31 ?_
  refine lv_aload_n C.1 C.2.1 dX3_copyFrom_34 rfl (lv_at hl 1 rfl) ?_
  refine gfX3 C G X (k := a1) hk_a1 3 (v := .ref (gB E + (a1 + 5))) rfl rfl (by decide) k_318 rfl dX3_copyFrom_35 ?_
  obtain ⟨σ38, e38, h⟩ := bnd h
  refine afV X (runV C G X q_X6_copyFrom k_475 k_476 k_764 (rcX6 G X (kf_3_5 hk_a0)) (c_X6_copyFrom l E (kf_3_5 hk_a0) (kf_3_5 hk_a1) e38) rfl hl.1 rfl (Nat.le_of_ble_eq_true rfl) ⟨Nat.le_of_ble_eq_true rfl, Nat.le_of_ble_eq_true rfl⟩ ⟨Nat.le_of_ble_eq_true rfl, Nat.le_of_ble_eq_true rfl⟩ dX3_copyFrom_38) (fun H locs X => ?_)
  refine lv_aload_n C.1 C.2.1 dX3_copyFrom_41 rfl (lv_at hl 0 rfl) ?_
  refine gfX3 C G X (k := a0) hk_a0 4 (v := .ref (gB E + (a0 + 7))) rfl rfl (by decide) k_319 rfl dX3_copyFrom_42 ?_
  refine lv_aload_n C.1 C.2.1 dX3_copyFrom_45 rfl (lv_at hl 1 rfl) ?_
  refine gfX3 C G X (k := a1) hk_a1 4 (v := .ref (gB E + (a1 + 7))) rfl rfl (by decide) k_319 rfl dX3_copyFrom_46 ?_
  obtain ⟨σ49, e49, h⟩ := bnd h
  refine afV X (runV C G X q_X6_copyFrom k_475 k_476 k_764 (rcX6 G X (kf_3_7 hk_a0)) (c_X6_copyFrom l E (kf_3_7 hk_a0) (kf_3_7 hk_a1) e49) rfl hl.1 rfl (Nat.le_of_ble_eq_true rfl) ⟨Nat.le_of_ble_eq_true rfl, Nat.le_of_ble_eq_true rfl⟩ ⟨Nat.le_of_ble_eq_true rfl, Nat.le_of_ble_eq_true rfl⟩ dX3_copyFrom_49) (fun H locs X => ?_)
  refine lv_aload_n C.1 C.2.1 dX3_copyFrom_52 rfl (lv_at hl 0 rfl) ?_
  refine lv_aload_n C.1 C.2.1 dX3_copyFrom_53 rfl (lv_at hl 1 rfl) ?_
  refine gfX3 C G X (k := a1) hk_a1 5 (v := .int (σ49 a1 5)) rfl rfl (by decide) k_320 rfl dX3_copyFrom_54 ?_
  obtain ⟨σ57, e57, h⟩ := bnd h
  refine pfX3 C G X (k := a0) hk_a0 5 (x := (σ49 a1 5)) (ty := .int) rfl rfl (Nat.le_of_ble_eq_true rfl) (by decide) k_320 rfl rfl (by decide +kernel) rfl rfl dX3_copyFrom_57 (fun H locs X => ?_)
  replace X := pu_x e57 X
  rw [← Option.some.inj h]
  exact rtV C X dX3_copyFrom_60

theorem c_X3_copyFrom (l : Launch) (E : GE) {σ : Mem} {a0 : Nat} {a1 : Nat} (hk_a0 : kd a0 = 3) (hk_a1 : kd a1 = 3) {r : Mem} (h : X3_copyFrom a0 a1 σ = some r) : CtV l E yX3_copyFrom cX3_copyFrom 2 3 [.ref (gB E + a0), .ref (gB E + a1)] σ r := by
  refine Met.ofW (cc := cX3_copyFrom) (maxL := 2) (ret := none) (by decide) rfl ?_
  intro p e s m args below meth c s₁ B hml hv
  obtain ⟨rfl, G, X⟩ := start hv
  have C := cxof B hml
  have hl := lv_entry [.ref (gB E + a0), .ref (gB E + a1)] (n := 2) (Nat.le_of_ble_eq_true rfl)
  rw [lg_entry_eq]
  generalize (lg_sl [.ref (gB E + a0), .ref (gB E + a1)] ++ List.replicate (2 - (lg_sl [.ref (gB E + a0), .ref (gB E + a1)]).length) Slot.unset).toArray = ls at hl ⊢
  exact w_X3_copyFrom C G X hk_a0 hk_a1 hl h

set_option maxRecDepth 20000 in
theorem w_X11_law {r : ((Int32 ⊕ Nat) × Mem)} {σ : Mem} {ls : Array Slot} {H : Heap} {locs : List Loc} (C : Cx p s m args meth c cX11_law (some .int) 1 RX11) (G : Gf E s) (T0 : ∀ x ∈ c.exceptionTable.toList, False) (hT : l.stackTraces = false) (X : Hx E σ s H locs) (hl : lv_has ls 1 [(0, .ref (gB E + 0))]) (h : X11_law σ = some r) : W p l e (RX 203 1) s m args below meth c H locs 0 0 (QX E below args s 1 r.1 r.2) (F0 m 0 ls []) := by
  rw [X11_law] at h
  refine lv_aload_n C.1 C.2.1 dX11_law_0 rfl (lv_at hl 0 rfl) ?_
  refine gfX11 C G X (k := 0) kd_0 0 (v := .ref (gB E + 1)) rfl rfl (by decide) k_405 rfl dX11_law_1 ?_
  obtain ⟨σ4, e4, h⟩ := bnd h
  refine afV X (runV C G X q_X10_scan k_804 k_805 k_803 (rcX10 G X kd_1) (c_X10_scan l E e4) rfl hl.1 rfl (Nat.le_of_ble_eq_true rfl) ⟨Nat.le_of_ble_eq_true rfl, Nat.le_of_ble_eq_true rfl⟩ ⟨Nat.le_of_ble_eq_true rfl, Nat.le_of_ble_eq_true rfl⟩ dX11_law_4) (fun H locs X => ?_)
  refine lv_aload_n C.1 C.2.1 dX11_law_7 rfl (lv_at hl 0 rfl) ?_
  refine gfX11 C G X (k := 0) kd_0 5 (v := .ref (gB E + 85)) rfl rfl (by decide) k_410 rfl dX11_law_8 ?_
  obtain ⟨σ11, e11, h⟩ := bnd h
  refine afV X (runV C G X q_X3_begin k_1079 k_1080 k_1078 (rcX3 G X kd_85) (c_X3_begin l E kd_85 e11) rfl hl.1 rfl (Nat.le_of_ble_eq_true rfl) ⟨Nat.le_of_ble_eq_true rfl, Nat.le_of_ble_eq_true rfl⟩ ⟨Nat.le_of_ble_eq_true rfl, Nat.le_of_ble_eq_true rfl⟩ dX11_law_11) (fun H locs X => ?_)
  refine lv_aload_n C.1 C.2.1 dX11_law_14 rfl (lv_at hl 0 rfl) ?_
  refine gfX11 C G X (k := 0) kd_0 0 (v := .ref (gB E + 1)) rfl rfl (by decide) k_405 rfl dX11_law_15 ?_
  refine lv_aload_n C.1 C.2.1 dX11_law_18 rfl (lv_at hl 0 rfl) ?_
  refine gfX11 C G X (k := 0) kd_0 5 (v := .ref (gB E + 85)) rfl rfl (by decide) k_410 rfl dX11_law_19 ?_
  obtain ⟨r22, σ22, e22, h⟩ := bnd2 h
  refine afI (r0 := r22) (σ' := σ22) X (runS C G X q_X4_readAll k_1083 k_1082 (c_X4_readAll l E kd_85 e22) rfl hl.1 rfl (Nat.le_of_ble_eq_true rfl) ⟨Nat.le_of_ble_eq_true rfl, Nat.le_of_ble_eq_true rfl⟩ ⟨Nat.le_of_ble_eq_true rfl, Nat.le_of_ble_eq_true rfl⟩ dX11_law_22) (fun H locs X => ?_)
  refine lv_if_ne (tgt := 38) C.1 C.2.1 dX11_law_25 (by decide) (fun c25 => ?_) (fun c25 => ?_)
  · replace h := ineg c25 h
    refine lv_aload_n C.1 C.2.1 dX11_law_38 rfl (lv_at hl 0 rfl) ?_
    refine gfX11 C G X (k := 0) kd_0 4 (v := .ref (gB E + 72)) rfl rfl (by decide) k_409 rfl dX11_law_39 ?_
    refine lv_aload_n C.1 C.2.1 dX11_law_42 rfl (lv_at hl 0 rfl) ?_
    refine gfX11 C G X (k := 0) kd_0 5 (v := .ref (gB E + 85)) rfl rfl (by decide) k_410 rfl dX11_law_43 ?_
    obtain ⟨σ46, e46, h⟩ := bnd h
    refine afV X (runV C G X q_X3_copyFrom k_761 k_762 k_760 (rcX3 G X kd_72) (c_X3_copyFrom l E kd_72 kd_85 e46) rfl hl.1 rfl (Nat.le_of_ble_eq_true rfl) ⟨Nat.le_of_ble_eq_true rfl, Nat.le_of_ble_eq_true rfl⟩ ⟨Nat.le_of_ble_eq_true rfl, Nat.le_of_ble_eq_true rfl⟩ dX11_law_46) (fun H locs X => ?_)
    refine lv_aload_n C.1 C.2.1 dX11_law_49 rfl (lv_at hl 0 rfl) ?_
    refine gfX11 C G X (k := 0) kd_0 8 (v := .ref (gB E + 111)) rfl rfl (by decide) k_413 rfl dX11_law_50 ?_
    obtain ⟨σ53, e53, h⟩ := bnd h
    refine afV X (runV C G X q_X2_forget k_770 k_771 k_769 (rcX2 G X kd_111) (c_X2_forget l E e53) rfl hl.1 rfl (Nat.le_of_ble_eq_true rfl) ⟨Nat.le_of_ble_eq_true rfl, Nat.le_of_ble_eq_true rfl⟩ ⟨Nat.le_of_ble_eq_true rfl, Nat.le_of_ble_eq_true rfl⟩ dX11_law_53) (fun H locs X => ?_)
    refine lv_aload_n C.1 C.2.1 dX11_law_56 rfl (lv_at hl 0 rfl) ?_
    refine gfX11 C G X (k := 0) kd_0 4 (v := .ref (gB E + 72)) rfl rfl (by decide) k_409 rfl dX11_law_57 ?_
    refine gfX3 C G X (k := 72) kd_72 0 (v := .int (σ53 72 0)) rfl rfl (by decide) k_315 rfl dX11_law_60 ?_
    refine W.widen (k := 1) (n := 6) (Nat.le_of_ble_eq_true rfl) (Nat.le_of_ble_eq_true rfl) ?_
    rw [← Option.some.inj h]
    exact vx_ret (rtxI C X dX11_law_63)
  · replace h := ipos c25 h
    rw [← Option.some.inj h]
    exact thS C G X T0 hT (x := 2) (cls := "java/lang/IllegalArgumentException") (text := "the text of the law is wrong") (ik := 91) (is := 117) (ic := 95) rfl k_985 k_126 (by decide +kernel) (by decide +kernel) hl.1 dX11_law_28 dX11_law_31 dX11_law_32 dX11_law_34 dX11_law_37 (Nat.le_of_ble_eq_true rfl) (Nat.le_of_ble_eq_true rfl) (Nat.le_of_ble_eq_true rfl) (Nat.le_of_ble_eq_true rfl)

theorem c_X11_law (l : Launch) (E : GE) (hT : l.stackTraces = false) {σ : Mem} {r : ((Int32 ⊕ Nat) × Mem)} (h : X11_law σ = some r) : CtX l E yX11_law cX11_law 1 .int 203 1 [.ref (gB E + 0)] σ r.1 r.2 := by
  refine vx_ofW (cc := cX11_law) (maxL := 1) (ret := (some .int)) (by decide) rfl ?_
  intro p e s m args below meth c s₁ B hml T0 hv
  obtain ⟨rfl, G, X⟩ := start hv
  have C := cxof B hml
  have hl := lv_entry [.ref (gB E + 0)] (n := 1) (Nat.le_of_ble_eq_true rfl)
  rw [lg_entry_eq]
  generalize (lg_sl [.ref (gB E + 0)] ++ List.replicate (1 - (lg_sl [.ref (gB E + 0)]).length) Slot.unset).toArray = ls at hl ⊢
  exact w_X11_law C G T0 hT X hl h

set_option maxRecDepth 20000 in
theorem w_X11_fault {r : Int32} {σ : Mem} {ls : Array Slot} {H : Heap} {locs : List Loc} (C : Cx p s m args meth c cX11_fault (some .int) 1 RX11) (G : Gf E s) (X : Hx E σ s H locs) (hl : lv_has ls 1 [(0, .ref (gB E + 0))]) (h : X11_fault σ = some r) : W p l e (RM 1) s m args below meth c H locs 0 0 (QI E below args s r σ) (F0 m 0 ls []) := by
  rw [X11_fault] at h
  refine lv_aload_n C.1 C.2.1 dX11_fault_0 rfl (lv_at hl 0 rfl) ?_
  refine gfX11 C G X (k := 0) kd_0 0 (v := .ref (gB E + 1)) rfl rfl (by decide) k_405 rfl dX11_fault_1 ?_
  refine gfX10 C G X (k := 1) kd_1 6 (v := .int (σ 1 6)) rfl rfl (by decide) k_174 rfl dX11_fault_4 ?_
  rw [← Option.some.inj h]
  exact rtI C X dX11_fault_7

theorem c_X11_fault (l : Launch) (E : GE) {σ : Mem} {r : Int32} (h : X11_fault σ = some r) : CtI l E yX11_fault cX11_fault 1 .int 1 [.ref (gB E + 0)] σ r σ := by
  refine Met.ofW (cc := cX11_fault) (maxL := 1) (ret := (some .int)) (by decide) rfl ?_
  intro p e s m args below meth c s₁ B hml hv
  obtain ⟨rfl, G, X⟩ := start hv
  have C := cxof B hml
  have hl := lv_entry [.ref (gB E + 0)] (n := 1) (Nat.le_of_ble_eq_true rfl)
  rw [lg_entry_eq]
  generalize (lg_sl [.ref (gB E + 0)] ++ List.replicate (1 - (lg_sl [.ref (gB E + 0)]).length) Slot.unset).toArray = ls at hl ⊢
  exact w_X11_fault C G X hl h

set_option maxRecDepth 20000 in
theorem w_X11_needPane_15 {r : (Int32 ⊕ Nat)} {σ : Mem} {ls : Array Slot} {H : Heap} {locs : List Loc} (C : Cx p s m args meth c cX11_needPane none 2 RX11) (G : Gf E s) (T0 : ∀ x ∈ c.exceptionTable.toList, False) (hT : l.stackTraces = false) (X : Hx E σ s H locs) (hl : lv_has ls 2 []) (h : X11_needPane_15 σ = some r) : W p l e (RX 12 1) s m args below meth c H locs 0 0 (QXV E below args s 1 r σ) (F0 m 15 ls []) := by
  rw [X11_needPane_15] at h
  rw [← Option.some.inj h]
  exact thSWV C G X T0 hT (x := 1) (cls := "java/lang/IndexOutOfBoundsException") (text := "there is no such pane") (ik := 440) (is := 442) (ic := 444) rfl k_1166 k_129 (by decide +kernel) (by decide +kernel) hl.1 dX11_needPane_15 dX11_needPane_18 dX11_needPane_19 dX11_needPane_22 dX11_needPane_25 (Nat.le_of_ble_eq_true rfl) (Nat.le_of_ble_eq_true rfl) (Nat.le_of_ble_eq_true rfl) (Nat.le_of_ble_eq_true rfl)

set_option maxRecDepth 20000 in
theorem w_X11_needPane {r : (Int32 ⊕ Nat)} {σ : Mem} {x1 : Int32} {ls : Array Slot} {H : Heap} {locs : List Loc} (C : Cx p s m args meth c cX11_needPane none 2 RX11) (G : Gf E s) (T0 : ∀ x ∈ c.exceptionTable.toList, False) (hT : l.stackTraces = false) (X : Hx E σ s H locs) (hl : lv_has ls 2 [(0, .ref (gB E + 0)), (1, .int x1)]) (h : X11_needPane σ x1 = some r) : W p l e (RX 12 1) s m args below meth c H locs 0 0 (QXV E below args s 1 r σ) (F0 m 0 ls []) := by
  rw [X11_needPane] at h
  refine lv_iload_n C.1 C.2.1 dX11_needPane_0 rfl (lv_at hl 1 rfl) ?_
  refine lv_if_lt (tgt := 15) C.1 C.2.1 dX11_needPane_1 (by decide) (fun c1 => ?_) (fun c1 => ?_)
  · replace h := ipos c1 h
    exact w_X11_needPane_15 C G T0 hT X (lv_sub hl [] rfl) h
  · replace h := ineg c1 h
    refine lv_iload_n C.1 C.2.1 dX11_needPane_4 rfl (lv_at hl 1 rfl) ?_
    refine lv_aload_n C.1 C.2.1 dX11_needPane_5 rfl (lv_at hl 0 rfl) ?_
    refine gfX11 C G X (k := 0) kd_0 1 (v := .ref (gB E + 9)) rfl rfl (by decide) k_406 rfl dX11_needPane_6 ?_
    refine gfX7 C G X (k := 9) kd_9 0 (v := .int (σ 9 0)) rfl rfl (by decide) k_203 rfl dX11_needPane_9 ?_
    refine lv_icmp_lt (tgt := 26) C.1 C.2.1 dX11_needPane_12 (by decide) (fun c12 => ?_) (fun c12 => ?_)
    · replace h := ipos c12 h
      refine W.widen (k := 1) (n := 6) (Nat.le_of_ble_eq_true rfl) (Nat.le_of_ble_eq_true rfl) ?_
      rw [← Option.some.inj h]
      exact vx_ret (rtxV C X dX11_needPane_26)
    · replace h := ineg c12 h
      exact w_X11_needPane_15 C G T0 hT X (lv_sub hl [] rfl) h

theorem c_X11_needPane (l : Launch) (E : GE) (hT : l.stackTraces = false) {σ : Mem} {x1 : Int32} {r : (Int32 ⊕ Nat)} (h : X11_needPane σ x1 = some r) : CtXV l E yX11_needPane cX11_needPane 2 12 1 [.ref (gB E + 0), .int x1] σ r σ := by
  refine vx_ofW (cc := cX11_needPane) (maxL := 2) (ret := none) (by decide) rfl ?_
  intro p e s m args below meth c s₁ B hml T0 hv
  obtain ⟨rfl, G, X⟩ := start hv
  have C := cxof B hml
  have hl := lv_entry [.ref (gB E + 0), .int x1] (n := 2) (Nat.le_of_ble_eq_true rfl)
  rw [lg_entry_eq]
  generalize (lg_sl [.ref (gB E + 0), .int x1] ++ List.replicate (2 - (lg_sl [.ref (gB E + 0), .int x1]).length) Slot.unset).toArray = ls at hl ⊢
  exact w_X11_needPane C G T0 hT X hl h

set_option maxRecDepth 20000 in
theorem w_X11_hasBit {r : Int32} {σ : Mem} {x0 : Int32} {x1 : Int32} {ls : Array Slot} {H : Heap} {locs : List Loc} (C : Cx p s m args meth c cX11_hasBit (some .boolean) 2 RX11) (G : Gf E s) (X : Hx E σ s H locs) (hl : lv_has ls 2 [(0, .int x0), (1, .int x1)]) (h : X11_hasBit σ x0 x1 = some r) : W p l e (RM 1) s m args below meth c H locs 0 0 (QI E below args s r σ) (F0 m 0 ls []) := by
  rw [X11_hasBit] at h
  refine lv_iload_n C.1 C.2.1 dX11_hasBit_0 rfl (lv_at hl 0 rfl) ?_
  refine lv_iload_n C.1 C.2.1 dX11_hasBit_1 rfl (lv_at hl 1 rfl) ?_
  refine lv_ishr C.1 C.2.1 dX11_hasBit_2 ?_
  refine lv_iconst (v := 1) C.1 C.2.1 dX11_hasBit_3 (by decide) ?_
  refine lv_iand C.1 C.2.1 dX11_hasBit_4 ?_
  refine lv_if_eq (tgt := 12) C.1 C.2.1 dX11_hasBit_5 (by decide) (fun c5 => ?_) (fun c5 => ?_)
  · replace h := ipos c5 h
    refine lv_iconst (v := 0) C.1 C.2.1 dX11_hasBit_12 (by decide) ?_
    obtain ⟨u13, z13, h⟩ := bnd h
    rw [← Option.some.inj h]
    exact rtZ C X (gb_s z13) dX11_hasBit_13
  · replace h := ineg c5 h
    refine lv_iconst (v := 1) C.1 C.2.1 dX11_hasBit_8 (by decide) ?_
    refine lv_goto (tgt := 13) C.1 C.2.1 dX11_hasBit_9 (by decide) ?_
    obtain ⟨u13, z13, h⟩ := bnd h
    rw [← Option.some.inj h]
    exact rtZ C X (gb_s z13) dX11_hasBit_13

theorem c_X11_hasBit (l : Launch) (E : GE) {σ : Mem} {x0 : Int32} {x1 : Int32} {r : Int32} (h : X11_hasBit σ x0 x1 = some r) : CtI l E yX11_hasBit cX11_hasBit 2 .boolean 1 [.int x0, .int x1] σ r σ := by
  refine Met.ofW (cc := cX11_hasBit) (maxL := 2) (ret := (some .boolean)) (by decide) rfl ?_
  intro p e s m args below meth c s₁ B hml hv
  obtain ⟨rfl, G, X⟩ := start hv
  have C := cxof B hml
  have hl := lv_entry [.int x0, .int x1] (n := 2) (Nat.le_of_ble_eq_true rfl)
  rw [lg_entry_eq]
  generalize (lg_sl [.int x0, .int x1] ++ List.replicate (2 - (lg_sl [.int x0, .int x1]).length) Slot.unset).toArray = ls at hl ⊢
  exact w_X11_hasBit C G X hl h

set_option maxRecDepth 20000 in
theorem w_X7_isBurning {r : Int32} {σ : Mem} {a0 : Nat} {x1 : Int32} {ls : Array Slot} {H : Heap} {locs : List Loc} (C : Cx p s m args meth c cX7_isBurning (some .boolean) 2 RX7) (G : Gf E s) (X : Hx E σ s H locs) (hk_a0 : kd a0 = 2) (hl : lv_has ls 2 [(0, .ref (gB E + a0)), (1, .int x1)]) (h : X7_isBurning σ a0 x1 = some r) : W p l e (RM 2) s m args below meth c H locs 0 0 (QI E below args s r σ) (F0 m 0 ls []) := by
  rw [X7_isBurning] at h
  refine lv_aload_n C.1 C.2.1 dX7_isBurning_0 rfl (lv_at hl 0 rfl) ?_
  refine gfX7 C G X (k := a0) hk_a0 8 (v := .int (σ a0 8)) rfl rfl (by decide) k_229 rfl dX7_isBurning_1 ?_
  refine lv_iload_n C.1 C.2.1 dX7_isBurning_4 rfl (lv_at hl 1 rfl) ?_
  obtain ⟨r5, e5, h⟩ := bnd h
  refine afI X (runN C G X q_X11_hasBit k_509 nw_9 (c_X11_hasBit l E e5) rfl hl.1 rfl (Nat.le_of_ble_eq_true rfl) ⟨Nat.le_of_ble_eq_true rfl, Nat.le_of_ble_eq_true rfl⟩ ⟨Nat.le_of_ble_eq_true rfl, Nat.le_of_ble_eq_true rfl⟩ dX7_isBurning_5) (fun H locs X => ?_)
  obtain ⟨u8, z8, h⟩ := bnd h
  rw [← Option.some.inj h]
  exact rtZ C X (gb_s z8) dX7_isBurning_8

theorem c_X7_isBurning (l : Launch) (E : GE) {σ : Mem} {a0 : Nat} {x1 : Int32} (hk_a0 : kd a0 = 2) {r : Int32} (h : X7_isBurning σ a0 x1 = some r) : CtI l E yX7_isBurning cX7_isBurning 2 .boolean 2 [.ref (gB E + a0), .int x1] σ r σ := by
  refine Met.ofW (cc := cX7_isBurning) (maxL := 2) (ret := (some .boolean)) (by decide) rfl ?_
  intro p e s m args below meth c s₁ B hml hv
  obtain ⟨rfl, G, X⟩ := start hv
  have C := cxof B hml
  have hl := lv_entry [.ref (gB E + a0), .int x1] (n := 2) (Nat.le_of_ble_eq_true rfl)
  rw [lg_entry_eq]
  generalize (lg_sl [.ref (gB E + a0), .int x1] ++ List.replicate (2 - (lg_sl [.ref (gB E + a0), .int x1]).length) Slot.unset).toArray = ls at hl ⊢
  exact w_X7_isBurning C G X hk_a0 hl h

set_option maxRecDepth 20000 in
theorem w_X7_likesOf {r : Int32} {σ : Mem} {a0 : Nat} {x1 : Int32} {x2 : Int32} {ls : Array Slot} {H : Heap} {locs : List Loc} (C : Cx p s m args meth c cX7_likesOf (some .int) 3 RX7) (G : Gf E s) (X : Hx E σ s H locs) (hk_a0 : kd a0 = 2) (hl : lv_has ls 3 [(0, .ref (gB E + a0)), (1, .int x1), (2, .int x2)]) (h : X7_likesOf σ a0 x1 x2 = some r) : W p l e (RM 2) s m args below meth c H locs 0 0 (QI E below args s r σ) (F0 m 0 ls []) := by
  rw [X7_likesOf] at h
  refine lv_aload_n C.1 C.2.1 dX7_likesOf_0 rfl (lv_at hl 0 rfl) ?_
  refine gfX7 C G X (k := a0) hk_a0 17 (v := .ref (gB E + (a0 + 17))) rfl rfl (by decide) k_260 rfl dX7_likesOf_1 ?_
  refine lv_iload_n C.1 C.2.1 dX7_likesOf_4 rfl (lv_at hl 1 rfl) ?_
  refine lv_bipush (v := 6) C.1 C.2.1 dX7_likesOf_5 (by decide) ?_
  refine lv_imul C.1 C.2.1 dX7_likesOf_7 ?_
  refine lv_iload_n C.1 C.2.1 dX7_likesOf_8 rfl (lv_at hl 2 rfl) ?_
  refine lv_iadd C.1 C.2.1 dX7_likesOf_9 ?_
  obtain ⟨r10, e10, h⟩ := bnd h
  refine afI X (runV C G X q_X6_get k_498 k_499 k_515 (rcX6 G X (kf_2_17 hk_a0)) (c_X6_get l E (kf_2_17 hk_a0) e10) rfl hl.1 rfl (Nat.le_of_ble_eq_true rfl) ⟨Nat.le_of_ble_eq_true rfl, Nat.le_of_ble_eq_true rfl⟩ ⟨Nat.le_of_ble_eq_true rfl, Nat.le_of_ble_eq_true rfl⟩ dX7_likesOf_10) (fun H locs X => ?_)
  rw [← Option.some.inj h]
  exact rtI C X dX7_likesOf_13

theorem c_X7_likesOf (l : Launch) (E : GE) {σ : Mem} {a0 : Nat} {x1 : Int32} {x2 : Int32} (hk_a0 : kd a0 = 2) {r : Int32} (h : X7_likesOf σ a0 x1 x2 = some r) : CtI l E yX7_likesOf cX7_likesOf 3 .int 2 [.ref (gB E + a0), .int x1, .int x2] σ r σ := by
  refine Met.ofW (cc := cX7_likesOf) (maxL := 3) (ret := (some .int)) (by decide) rfl ?_
  intro p e s m args below meth c s₁ B hml hv
  obtain ⟨rfl, G, X⟩ := start hv
  have C := cxof B hml
  have hl := lv_entry [.ref (gB E + a0), .int x1, .int x2] (n := 3) (Nat.le_of_ble_eq_true rfl)
  rw [lg_entry_eq]
  generalize (lg_sl [.ref (gB E + a0), .int x1, .int x2] ++ List.replicate (3 - (lg_sl [.ref (gB E + a0), .int x1, .int x2]).length) Slot.unset).toArray = ls at hl ⊢
  exact w_X7_likesOf C G X hk_a0 hl h

set_option maxRecDepth 20000 in
theorem w_X7_likesFor {r : Int32} {σ : Mem} {a0 : Nat} {x1 : Int32} {x2 : Int32} {ls : Array Slot} {H : Heap} {locs : List Loc} (C : Cx p s m args meth c cX7_likesFor (some .int) 4 RX7) (G : Gf E s) (X : Hx E σ s H locs) (hk_a0 : kd a0 = 2) (hl : lv_has ls 4 [(0, .ref (gB E + a0)), (1, .int x1), (2, .int x2)]) (h : X7_likesFor σ a0 x1 x2 = some r) : W p l e (RM 3) s m args below meth c H locs 0 0 (QI E below args s r σ) (F0 m 0 ls []) := by
  rw [X7_likesFor] at h
  refine lv_aload_n C.1 C.2.1 dX7_likesFor_0 rfl (lv_at hl 0 rfl) ?_
  refine gfX7 C G X (k := a0) hk_a0 10 (v := .ref (gB E + (a0 + 3))) rfl rfl (by decide) k_235 rfl dX7_likesFor_1 ?_
  refine lv_iload_n C.1 C.2.1 dX7_likesFor_4 rfl (lv_at hl 2 rfl) ?_
  obtain ⟨r5, e5, h⟩ := bnd h
  refine afI X (runV C G X q_X6_get k_498 k_499 k_515 (rcX6 G X (kf_2_3 hk_a0)) (c_X6_get l E (kf_2_3 hk_a0) e5) rfl hl.1 rfl (Nat.le_of_ble_eq_true rfl) ⟨Nat.le_of_ble_eq_true rfl, Nat.le_of_ble_eq_true rfl⟩ ⟨Nat.le_of_ble_eq_true rfl, Nat.le_of_ble_eq_true rfl⟩ dX7_likesFor_5) (fun H locs X => ?_)
  refine lv_istore_n (lv' := [(3, .int r5), (0, .ref (gB E + a0)), (1, .int x1), (2, .int x2)]) C.1 C.2.1 dX7_likesFor_8 rfl hl (by decide) rfl (fun ls hl => ?_)
  refine lv_iload_n C.1 C.2.1 dX7_likesFor_9 rfl (lv_at hl 0 rfl) ?_
  refine lv_iconst (v := -1) C.1 C.2.1 dX7_likesFor_10 (by decide) ?_
  refine lv_icmp_eq (tgt := 19) C.1 C.2.1 dX7_likesFor_11 (by decide) (fun c11 => ?_) (fun c11 => ?_)
  · replace h := ipos c11 h
    refine lv_iconst (v := 5) C.1 C.2.1 dX7_likesFor_19 (by decide) ?_
    refine lv_goto (tgt := 29) C.1 C.2.1 dX7_likesFor_20 (by decide) ?_
    rw [← Option.some.inj h]
    exact rtI C X dX7_likesFor_29
  · replace h := ineg c11 h
    refine lv_iload_n C.1 C.2.1 dX7_likesFor_14 rfl (lv_at hl 0 rfl) ?_
    refine lv_iload_n C.1 C.2.1 dX7_likesFor_15 rfl (lv_at hl 2 rfl) ?_
    refine lv_icmp_ne (tgt := 23) C.1 C.2.1 dX7_likesFor_16 (by decide) (fun c16 => ?_) (fun c16 => ?_)
    · replace h := ineg c16 h
      refine lv_aload_n C.1 C.2.1 dX7_likesFor_23 rfl (lv_at hl 1 rfl) ?_
      refine lv_iload_n C.1 C.2.1 dX7_likesFor_24 rfl (lv_at hl 2 rfl) ?_
      refine lv_iload_n C.1 C.2.1 dX7_likesFor_25 rfl (lv_at hl 0 rfl) ?_
      obtain ⟨r26, e26, h⟩ := bnd h
      refine afI X (runV C G X q_X7_likesOf k_530 k_531 k_529 (rcX7 G X hk_a0) (c_X7_likesOf l E hk_a0 e26) rfl hl.1 rfl (Nat.le_of_ble_eq_true rfl) ⟨Nat.le_of_ble_eq_true rfl, Nat.le_of_ble_eq_true rfl⟩ ⟨Nat.le_of_ble_eq_true rfl, Nat.le_of_ble_eq_true rfl⟩ dX7_likesFor_26) (fun H locs X => ?_)
      rw [← Option.some.inj h]
      exact rtI C X dX7_likesFor_29
    · replace h := ipos c16 h
      refine lv_iconst (v := 5) C.1 C.2.1 dX7_likesFor_19 (by decide) ?_
      refine lv_goto (tgt := 29) C.1 C.2.1 dX7_likesFor_20 (by decide) ?_
      rw [← Option.some.inj h]
      exact rtI C X dX7_likesFor_29

theorem c_X7_likesFor (l : Launch) (E : GE) {σ : Mem} {a0 : Nat} {x1 : Int32} {x2 : Int32} (hk_a0 : kd a0 = 2) {r : Int32} (h : X7_likesFor σ a0 x1 x2 = some r) : CtI l E yX7_likesFor cX7_likesFor 4 .int 3 [.ref (gB E + a0), .int x1, .int x2] σ r σ := by
  refine Met.ofW (cc := cX7_likesFor) (maxL := 4) (ret := (some .int)) (by decide) rfl ?_
  intro p e s m args below meth c s₁ B hml hv
  obtain ⟨rfl, G, X⟩ := start hv
  have C := cxof B hml
  have hl := lv_entry [.ref (gB E + a0), .int x1, .int x2] (n := 4) (Nat.le_of_ble_eq_true rfl)
  rw [lg_entry_eq]
  generalize (lg_sl [.ref (gB E + a0), .int x1, .int x2] ++ List.replicate (4 - (lg_sl [.ref (gB E + a0), .int x1, .int x2]).length) Slot.unset).toArray = ls at hl ⊢
  exact w_X7_likesFor C G X hk_a0 hl h

set_option maxRecDepth 20000 in
theorem w_X3_look_144 {r : Mem} {σ : Mem} {a0 : Nat} {a1 : Nat} {b0 : Nat} {y1 : Int32} {y2 : Int32} {ls : Array Slot} {H : Heap} {locs : List Loc} (C : Cx p s m args meth c cX3_look none 6 RX3) (G : Gf E s) (X : Hx E σ s H locs) (hk_a0 : kd a0 = 3) (hk_a1 : kd a1 = 2) (hk_b0 : kd b0 = 1) (hl : lv_has ls 6 [(0, .ref (gB E + a0)), (1, .ref (gB E + a1))]) (h : X3_look_144 a0 a1 b0 y1 y2 σ = some r) : W p l e (RM 2) s m args below meth c H locs 0 0 (QV E below args s r) (F0 m 144 ls [.int y2, .int y1, .ref (gB E + b0)]) := by
  rw [X3_look_144] at h
  obtain ⟨σ144, e144, h⟩ := bnd h
  refine afV X (runV C G X q_X6_set k_451 k_452 k_548 (rcX6 G X hk_b0) (c_X6_set l E hk_b0 e144) rfl hl.1 rfl (Nat.le_of_ble_eq_true rfl) ⟨Nat.le_of_ble_eq_true rfl, Nat.le_of_ble_eq_true rfl⟩ ⟨Nat.le_of_ble_eq_true rfl, Nat.le_of_ble_eq_true rfl⟩ dX3_look_144) (fun H locs X => ?_)
  refine lv_aload_n C.1 C.2.1 dX3_look_147 rfl (lv_at hl 0 rfl) ?_
  refine gfX3 C G X (k := a0) hk_a0 6 (v := .ref (gB E + (a0 + 9))) rfl rfl (by decide) k_321 rfl dX3_look_148 ?_
  refine gsT C G X (i := 17) (x := 18) (by decide) (by decide) (nm := "MISTY") rfl k_312 dX3_look_151 ?_
  obtain ⟨r154, e154, h⟩ := bnd h
  refine gfFa C G X e154 k_2316 dX3_look_154 ?_
  refine lv_aload_n C.1 C.2.1 dX3_look_157 rfl (lv_at hl 1 rfl) ?_
  refine gfX7 C G X (k := a1) hk_a1 6 (v := .int (σ144 a1 6)) rfl rfl (by decide) k_224 rfl dX3_look_158 ?_
  refine lv_if_eq (tgt := 168) C.1 C.2.1 dX3_look_161 (by decide) (fun c161 => ?_) (fun c161 => ?_)
  · replace h := ipos c161 h
    refine lv_iconst (v := 0) C.1 C.2.1 dX3_look_168 (by decide) ?_
    obtain ⟨σ169, e169, h⟩ := bnd h
    refine afV X (runV C G X q_X6_set k_451 k_452 k_548 (rcX6 G X (kf_3_9 hk_a0)) (c_X6_set l E (kf_3_9 hk_a0) e169) rfl hl.1 rfl (Nat.le_of_ble_eq_true rfl) ⟨Nat.le_of_ble_eq_true rfl, Nat.le_of_ble_eq_true rfl⟩ ⟨Nat.le_of_ble_eq_true rfl, Nat.le_of_ble_eq_true rfl⟩ dX3_look_169) (fun H locs X => ?_)
    rw [← Option.some.inj h]
    exact rtV C X dX3_look_172
  · replace h := ineg c161 h
    refine lv_iconst (v := 1) C.1 C.2.1 dX3_look_164 (by decide) ?_
    refine lv_goto (tgt := 169) C.1 C.2.1 dX3_look_165 (by decide) ?_
    obtain ⟨σ169, e169, h⟩ := bnd h
    refine afV X (runV C G X q_X6_set k_451 k_452 k_548 (rcX6 G X (kf_3_9 hk_a0)) (c_X6_set l E (kf_3_9 hk_a0) e169) rfl hl.1 rfl (Nat.le_of_ble_eq_true rfl) ⟨Nat.le_of_ble_eq_true rfl, Nat.le_of_ble_eq_true rfl⟩ ⟨Nat.le_of_ble_eq_true rfl, Nat.le_of_ble_eq_true rfl⟩ dX3_look_169) (fun H locs X => ?_)
    rw [← Option.some.inj h]
    exact rtV C X dX3_look_172

set_option maxRecDepth 20000 in
theorem w_X3_look {r : Mem} {σ : Mem} {a0 : Nat} {a1 : Nat} {x2 : Int32} {x3 : Int32} {x4 : Int32} {x5 : Int32} {ls : Array Slot} {H : Heap} {locs : List Loc} (C : Cx p s m args meth c cX3_look none 6 RX3) (G : Gf E s) (X : Hx E σ s H locs) (hk_a0 : kd a0 = 3) (hk_a1 : kd a1 = 2) (hl : lv_has ls 6 [(0, .ref (gB E + a0)), (1, .ref (gB E + a1)), (2, .int x2), (3, .int x3), (4, .int x4), (5, .int x5)]) (h : X3_look a0 a1 x2 x3 x4 x5 σ = some r) : W p l e (RM 2) s m args below meth c H locs 0 0 (QV E below args s r) (F0 m 0 ls []) := by
  rw [X3_look] at h
  refine lv_aload_n C.1 C.2.1 dX3_look_0 rfl (lv_at hl 0 rfl) ?_
  refine gfX3 C G X (k := a0) hk_a0 6 (v := .ref (gB E + (a0 + 9))) rfl rfl (by decide) k_321 rfl dX3_look_1 ?_
  refine gsT C G X (i := 10) (x := 11) (by decide) (by decide) (nm := "WALKER") rfl k_546 dX3_look_4 ?_
  obtain ⟨r7, e7, h⟩ := bnd h
  refine gfFa C G X e7 k_2316 dX3_look_7 ?_
  refine lv_iload_n C.1 C.2.1 dX3_look_10 rfl (lv_at hl 2 rfl) ?_
  obtain ⟨σ11, e11, h⟩ := bnd h
  refine afV X (runV C G X q_X6_set k_451 k_452 k_548 (rcX6 G X (kf_3_9 hk_a0)) (c_X6_set l E (kf_3_9 hk_a0) e11) rfl hl.1 rfl (Nat.le_of_ble_eq_true rfl) ⟨Nat.le_of_ble_eq_true rfl, Nat.le_of_ble_eq_true rfl⟩ ⟨Nat.le_of_ble_eq_true rfl, Nat.le_of_ble_eq_true rfl⟩ dX3_look_11) (fun H locs X => ?_)
  refine lv_aload_n C.1 C.2.1 dX3_look_14 rfl (lv_at hl 0 rfl) ?_
  refine gfX3 C G X (k := a0) hk_a0 6 (v := .ref (gB E + (a0 + 9))) rfl rfl (by decide) k_321 rfl dX3_look_15 ?_
  refine gsT C G X (i := 9) (x := 10) (by decide) (by decide) (nm := "PANE") rfl k_549 dX3_look_18 ?_
  obtain ⟨r21, e21, h⟩ := bnd h
  refine gfFa C G X e21 k_2316 dX3_look_21 ?_
  refine lv_iload_n C.1 C.2.1 dX3_look_24 rfl (lv_at hl 3 rfl) ?_
  obtain ⟨σ25, e25, h⟩ := bnd h
  refine afV X (runV C G X q_X6_set k_451 k_452 k_548 (rcX6 G X (kf_3_9 hk_a0)) (c_X6_set l E (kf_3_9 hk_a0) e25) rfl hl.1 rfl (Nat.le_of_ble_eq_true rfl) ⟨Nat.le_of_ble_eq_true rfl, Nat.le_of_ble_eq_true rfl⟩ ⟨Nat.le_of_ble_eq_true rfl, Nat.le_of_ble_eq_true rfl⟩ dX3_look_25) (fun H locs X => ?_)
  refine lv_aload_n C.1 C.2.1 dX3_look_28 rfl (lv_at hl 0 rfl) ?_
  refine gfX3 C G X (k := a0) hk_a0 6 (v := .ref (gB E + (a0 + 9))) rfl rfl (by decide) k_321 rfl dX3_look_29 ?_
  refine gsT C G X (i := 11) (x := 12) (by decide) (by decide) (nm := "OIL") rfl k_551 dX3_look_32 ?_
  obtain ⟨r35, e35, h⟩ := bnd h
  refine gfFa C G X e35 k_2316 dX3_look_35 ?_
  refine lv_aload_n C.1 C.2.1 dX3_look_38 rfl (lv_at hl 1 rfl) ?_
  refine gfX7 C G X (k := a1) hk_a1 9 (v := .ref (gB E + (a1 + 1))) rfl rfl (by decide) k_233 rfl dX3_look_39 ?_
  refine lv_iload_n C.1 C.2.1 dX3_look_42 rfl (lv_at hl 3 rfl) ?_
  obtain ⟨r43, e43, h⟩ := bnd h
  refine afI X (runV C G X q_X6_get k_498 k_499 k_541 (rcX6 G X (kf_2_1 hk_a1)) (c_X6_get l E (kf_2_1 hk_a1) e43) rfl hl.1 rfl (Nat.le_of_ble_eq_true rfl) ⟨Nat.le_of_ble_eq_true rfl, Nat.le_of_ble_eq_true rfl⟩ ⟨Nat.le_of_ble_eq_true rfl, Nat.le_of_ble_eq_true rfl⟩ dX3_look_43) (fun H locs X => ?_)
  obtain ⟨σ46, e46, h⟩ := bnd h
  refine afV X (runV C G X q_X6_set k_451 k_452 k_548 (rcX6 G X (kf_3_9 hk_a0)) (c_X6_set l E (kf_3_9 hk_a0) e46) rfl hl.1 rfl (Nat.le_of_ble_eq_true rfl) ⟨Nat.le_of_ble_eq_true rfl, Nat.le_of_ble_eq_true rfl⟩ ⟨Nat.le_of_ble_eq_true rfl, Nat.le_of_ble_eq_true rfl⟩ dX3_look_46) (fun H locs X => ?_)
  refine lv_aload_n C.1 C.2.1 dX3_look_49 rfl (lv_at hl 0 rfl) ?_
  refine gfX3 C G X (k := a0) hk_a0 6 (v := .ref (gB E + (a0 + 9))) rfl rfl (by decide) k_321 rfl dX3_look_50 ?_
  refine gsT C G X (i := 12) (x := 13) (by decide) (by decide) (nm := "DARK") rfl k_553 dX3_look_53 ?_
  obtain ⟨r56, e56, h⟩ := bnd h
  refine gfFa C G X e56 k_2316 dX3_look_56 ?_
  refine lv_aload_n C.1 C.2.1 dX3_look_59 rfl (lv_at hl 1 rfl) ?_
  refine gfX7 C G X (k := a1) hk_a1 11 (v := .ref (gB E + (a1 + 5))) rfl rfl (by decide) k_242 rfl dX3_look_60 ?_
  refine lv_iload_n C.1 C.2.1 dX3_look_63 rfl (lv_at hl 3 rfl) ?_
  obtain ⟨r64, e64, h⟩ := bnd h
  refine afI X (runV C G X q_X6_get k_498 k_499 k_541 (rcX6 G X (kf_2_5 hk_a1)) (c_X6_get l E (kf_2_5 hk_a1) e64) rfl hl.1 rfl (Nat.le_of_ble_eq_true rfl) ⟨Nat.le_of_ble_eq_true rfl, Nat.le_of_ble_eq_true rfl⟩ ⟨Nat.le_of_ble_eq_true rfl, Nat.le_of_ble_eq_true rfl⟩ dX3_look_64) (fun H locs X => ?_)
  obtain ⟨σ67, e67, h⟩ := bnd h
  refine afV X (runV C G X q_X6_set k_451 k_452 k_548 (rcX6 G X (kf_3_9 hk_a0)) (c_X6_set l E (kf_3_9 hk_a0) e67) rfl hl.1 rfl (Nat.le_of_ble_eq_true rfl) ⟨Nat.le_of_ble_eq_true rfl, Nat.le_of_ble_eq_true rfl⟩ ⟨Nat.le_of_ble_eq_true rfl, Nat.le_of_ble_eq_true rfl⟩ dX3_look_67) (fun H locs X => ?_)
  refine lv_aload_n C.1 C.2.1 dX3_look_70 rfl (lv_at hl 0 rfl) ?_
  refine gfX3 C G X (k := a0) hk_a0 6 (v := .ref (gB E + (a0 + 9))) rfl rfl (by decide) k_321 rfl dX3_look_71 ?_
  refine gsT C G X (i := 13) (x := 14) (by decide) (by decide) (nm := "TAPER") rfl k_555 dX3_look_74 ?_
  obtain ⟨r77, e77, h⟩ := bnd h
  refine gfFa C G X e77 k_2316 dX3_look_77 ?_
  refine lv_iload C.1 C.2.1 dX3_look_80 (lv_at hl 5 rfl) ?_
  obtain ⟨σ82, e82, h⟩ := bnd h
  refine afV X (runV C G X q_X6_set k_451 k_452 k_548 (rcX6 G X (kf_3_9 hk_a0)) (c_X6_set l E (kf_3_9 hk_a0) e82) rfl hl.1 rfl (Nat.le_of_ble_eq_true rfl) ⟨Nat.le_of_ble_eq_true rfl, Nat.le_of_ble_eq_true rfl⟩ ⟨Nat.le_of_ble_eq_true rfl, Nat.le_of_ble_eq_true rfl⟩ dX3_look_82) (fun H locs X => ?_)
  refine lv_aload_n C.1 C.2.1 dX3_look_85 rfl (lv_at hl 0 rfl) ?_
  refine gfX3 C G X (k := a0) hk_a0 6 (v := .ref (gB E + (a0 + 9))) rfl rfl (by decide) k_321 rfl dX3_look_86 ?_
  refine gsT C G X (i := 14) (x := 15) (by decide) (by decide) (nm := "LIKES") rfl k_557 dX3_look_89 ?_
  obtain ⟨r92, e92, h⟩ := bnd h
  refine gfFa C G X e92 k_2316 dX3_look_92 ?_
  refine lv_iload C.1 C.2.1 dX3_look_95 (lv_at hl 4 rfl) ?_
  obtain ⟨σ97, e97, h⟩ := bnd h
  refine afV X (runV C G X q_X6_set k_451 k_452 k_548 (rcX6 G X (kf_3_9 hk_a0)) (c_X6_set l E (kf_3_9 hk_a0) e97) rfl hl.1 rfl (Nat.le_of_ble_eq_true rfl) ⟨Nat.le_of_ble_eq_true rfl, Nat.le_of_ble_eq_true rfl⟩ ⟨Nat.le_of_ble_eq_true rfl, Nat.le_of_ble_eq_true rfl⟩ dX3_look_97) (fun H locs X => ?_)
  refine lv_aload_n C.1 C.2.1 dX3_look_100 rfl (lv_at hl 0 rfl) ?_
  refine gfX3 C G X (k := a0) hk_a0 6 (v := .ref (gB E + (a0 + 9))) rfl rfl (by decide) k_321 rfl dX3_look_101 ?_
  refine gsT C G X (i := 15) (x := 16) (by decide) (by decide) (nm := "HOUR") rfl k_559 dX3_look_104 ?_
  obtain ⟨r107, e107, h⟩ := bnd h
  refine gfFa C G X e107 k_2316 dX3_look_107 ?_
  refine lv_aload_n C.1 C.2.1 dX3_look_110 rfl (lv_at hl 1 rfl) ?_
  refine gfX7 C G X (k := a1) hk_a1 3 (v := .int (σ97 a1 3)) rfl rfl (by decide) k_212 rfl dX3_look_111 ?_
  obtain ⟨σ114, e114, h⟩ := bnd h
  refine afV X (runV C G X q_X6_set k_451 k_452 k_548 (rcX6 G X (kf_3_9 hk_a0)) (c_X6_set l E (kf_3_9 hk_a0) e114) rfl hl.1 rfl (Nat.le_of_ble_eq_true rfl) ⟨Nat.le_of_ble_eq_true rfl, Nat.le_of_ble_eq_true rfl⟩ ⟨Nat.le_of_ble_eq_true rfl, Nat.le_of_ble_eq_true rfl⟩ dX3_look_114) (fun H locs X => ?_)
  refine lv_aload_n C.1 C.2.1 dX3_look_117 rfl (lv_at hl 0 rfl) ?_
  refine gfX3 C G X (k := a0) hk_a0 6 (v := .ref (gB E + (a0 + 9))) rfl rfl (by decide) k_321 rfl dX3_look_118 ?_
  refine gsT C G X (i := 16) (x := 17) (by decide) (by decide) (nm := "OWNED") rfl k_561 dX3_look_121 ?_
  obtain ⟨r124, e124, h⟩ := bnd h
  refine gfFa C G X e124 k_2316 dX3_look_124 ?_
  refine lv_aload_n C.1 C.2.1 dX3_look_127 rfl (lv_at hl 1 rfl) ?_
  refine gfX7 C G X (k := a1) hk_a1 10 (v := .ref (gB E + (a1 + 3))) rfl rfl (by decide) k_239 rfl dX3_look_128 ?_
  refine lv_iload_n C.1 C.2.1 dX3_look_131 rfl (lv_at hl 3 rfl) ?_
  obtain ⟨r132, e132, h⟩ := bnd h
  refine afI X (runV C G X q_X6_get k_498 k_499 k_541 (rcX6 G X (kf_2_3 hk_a1)) (c_X6_get l E (kf_2_3 hk_a1) e132) rfl hl.1 rfl (Nat.le_of_ble_eq_true rfl) ⟨Nat.le_of_ble_eq_true rfl, Nat.le_of_ble_eq_true rfl⟩ ⟨Nat.le_of_ble_eq_true rfl, Nat.le_of_ble_eq_true rfl⟩ dX3_look_132) (fun H locs X => ?_)
  refine lv_iconst (v := -1) C.1 C.2.1 dX3_look_135 (by decide) ?_
  refine lv_icmp_eq (tgt := 143) C.1 C.2.1 dX3_look_136 (by decide) (fun c136 => ?_) (fun c136 => ?_)
  · replace h := ipos c136 h
    refine lv_iconst (v := 0) C.1 C.2.1 dX3_look_143 (by decide) ?_
    exact w_X3_look_144 C G X hk_a0 hk_a1 (kf_3_9 hk_a0) (lv_sub hl [0, 1] rfl) h
  · replace h := ineg c136 h
    refine lv_iconst (v := 1) C.1 C.2.1 dX3_look_139 (by decide) ?_
    refine lv_goto (tgt := 144) C.1 C.2.1 dX3_look_140 (by decide) ?_
    exact w_X3_look_144 C G X hk_a0 hk_a1 (kf_3_9 hk_a0) (lv_sub hl [0, 1] rfl) h

theorem c_X3_look (l : Launch) (E : GE) {σ : Mem} {a0 : Nat} {a1 : Nat} {x2 : Int32} {x3 : Int32} {x4 : Int32} {x5 : Int32} (hk_a0 : kd a0 = 3) (hk_a1 : kd a1 = 2) {r : Mem} (h : X3_look a0 a1 x2 x3 x4 x5 σ = some r) : CtV l E yX3_look cX3_look 6 2 [.ref (gB E + a0), .ref (gB E + a1), .int x2, .int x3, .int x4, .int x5] σ r := by
  refine Met.ofW (cc := cX3_look) (maxL := 6) (ret := none) (by decide) rfl ?_
  intro p e s m args below meth c s₁ B hml hv
  obtain ⟨rfl, G, X⟩ := start hv
  have C := cxof B hml
  have hl := lv_entry [.ref (gB E + a0), .ref (gB E + a1), .int x2, .int x3, .int x4, .int x5] (n := 6) (Nat.le_of_ble_eq_true rfl)
  rw [lg_entry_eq]
  generalize (lg_sl [.ref (gB E + a0), .ref (gB E + a1), .int x2, .int x3, .int x4, .int x5] ++ List.replicate (6 - (lg_sl [.ref (gB E + a0), .ref (gB E + a1), .int x2, .int x3, .int x4, .int x5]).length) Slot.unset).toArray = ls at hl ⊢
  exact w_X3_look C G X hk_a0 hk_a1 hl h

set_option maxRecDepth 20000 in
theorem w_X3_joined {r : Int32} {σ : Mem} {x0 : Int32} {x1 : Int32} {x2 : Int32} {ls : Array Slot} {H : Heap} {locs : List Loc} (C : Cx p s m args meth c cX3_joined (some .int) 3 RX3) (G : Gf E s) (X : Hx E σ s H locs) (hl : lv_has ls 3 [(0, .int x0), (1, .int x1), (2, .int x2)]) (h : X3_joined σ x0 x1 x2 = some r) : W p l e (RM 1) s m args below meth c H locs 0 0 (QI E below args s r σ) (F0 m 0 ls []) := by
  rw [X3_joined] at h
  refine lv_iload_n C.1 C.2.1 dX3_joined_0 rfl (lv_at hl 0 rfl) ?_
  by_cases c1_95 : x0 = (-5 : Int32)
  · replace h := ipos c1_95 h
    refine lv_tableIn (off := 61) (tgt := 62) C.1 C.2.1 dX3_joined_1 (by rw [c1_95]; decide) (by rw [c1_95]; decide) (by rw [c1_95]; decide) (by decide) ?_
    refine lv_iload_n C.1 C.2.1 dX3_joined_62 rfl (lv_at hl 1 rfl) ?_
    refine lv_iload_n C.1 C.2.1 dX3_joined_63 rfl (lv_at hl 2 rfl) ?_
    refine lv_iand C.1 C.2.1 dX3_joined_64 ?_
    rw [← Option.some.inj h]
    exact rtI C X dX3_joined_65
  · replace h := ineg c1_95 h
    have n1_95 := lv_neT c1_95 (a := -5) (by decide)
    by_cases c1_96 : x0 = (-4 : Int32)
    · replace h := ipos c1_96 h
      refine lv_tableIn (off := 65) (tgt := 66) C.1 C.2.1 dX3_joined_1 (by rw [c1_96]; decide) (by rw [c1_96]; decide) (by rw [c1_96]; decide) (by decide) ?_
      refine lv_iload_n C.1 C.2.1 dX3_joined_66 rfl (lv_at hl 1 rfl) ?_
      refine lv_iload_n C.1 C.2.1 dX3_joined_67 rfl (lv_at hl 2 rfl) ?_
      refine lv_ior C.1 C.2.1 dX3_joined_68 ?_
      rw [← Option.some.inj h]
      exact rtI C X dX3_joined_69
    · replace h := ineg c1_96 h
      have n1_96 := lv_neT c1_96 (a := -4) (by decide)
      by_cases c1_97 : x0 = (-3 : Int32)
      · replace h := ipos c1_97 h
        refine lv_tableIn (off := 50) (tgt := 51) C.1 C.2.1 dX3_joined_1 (by rw [c1_97]; decide) (by rw [c1_97]; decide) (by rw [c1_97]; decide) (by decide) ?_
        refine lv_iload_n C.1 C.2.1 dX3_joined_51 rfl (lv_at hl 1 rfl) ?_
        refine lv_iload_n C.1 C.2.1 dX3_joined_52 rfl (lv_at hl 2 rfl) ?_
        refine lv_icmp_le (tgt := 60) C.1 C.2.1 dX3_joined_53 (by decide) (fun c53 => ?_) (fun c53 => ?_)
        · replace h := ipos c53 h
          refine lv_iconst (v := 0) C.1 C.2.1 dX3_joined_60 (by decide) ?_
          rw [← Option.some.inj h]
          exact rtI C X dX3_joined_61
        · replace h := ineg c53 h
          refine lv_iconst (v := 1) C.1 C.2.1 dX3_joined_56 (by decide) ?_
          refine lv_goto (tgt := 61) C.1 C.2.1 dX3_joined_57 (by decide) ?_
          rw [← Option.some.inj h]
          exact rtI C X dX3_joined_61
      · replace h := ineg c1_97 h
        have n1_97 := lv_neT c1_97 (a := -3) (by decide)
        by_cases c1_98 : x0 = (-2 : Int32)
        · replace h := ipos c1_98 h
          refine lv_tableIn (off := 39) (tgt := 40) C.1 C.2.1 dX3_joined_1 (by rw [c1_98]; decide) (by rw [c1_98]; decide) (by rw [c1_98]; decide) (by decide) ?_
          refine lv_iload_n C.1 C.2.1 dX3_joined_40 rfl (lv_at hl 1 rfl) ?_
          refine lv_iload_n C.1 C.2.1 dX3_joined_41 rfl (lv_at hl 2 rfl) ?_
          refine lv_icmp_ge (tgt := 49) C.1 C.2.1 dX3_joined_42 (by decide) (fun c42 => ?_) (fun c42 => ?_)
          · replace h := ipos c42 h
            refine lv_iconst (v := 0) C.1 C.2.1 dX3_joined_49 (by decide) ?_
            rw [← Option.some.inj h]
            exact rtI C X dX3_joined_50
          · replace h := ineg c42 h
            refine lv_iconst (v := 1) C.1 C.2.1 dX3_joined_45 (by decide) ?_
            refine lv_goto (tgt := 50) C.1 C.2.1 dX3_joined_46 (by decide) ?_
            rw [← Option.some.inj h]
            exact rtI C X dX3_joined_50
        · replace h := ineg c1_98 h
          have n1_98 := lv_neT c1_98 (a := -2) (by decide)
          by_cases c1_99 : x0 = (-1 : Int32)
          · replace h := ipos c1_99 h
            refine lv_tableIn (off := 35) (tgt := 36) C.1 C.2.1 dX3_joined_1 (by rw [c1_99]; decide) (by rw [c1_99]; decide) (by rw [c1_99]; decide) (by decide) ?_
            refine lv_iload_n C.1 C.2.1 dX3_joined_36 rfl (lv_at hl 1 rfl) ?_
            refine lv_iload_n C.1 C.2.1 dX3_joined_37 rfl (lv_at hl 2 rfl) ?_
            refine lv_iadd C.1 C.2.1 dX3_joined_38 ?_
            rw [← Option.some.inj h]
            exact rtI C X dX3_joined_39
          · replace h := ineg c1_99 h
            have n1_99 := lv_neT c1_99 (a := -1) (by decide)
            refine lv_tableOut (tgt := 66) C.1 C.2.1 dX3_joined_1 (by omega) (by decide) ?_
            refine lv_iload_n C.1 C.2.1 dX3_joined_66 rfl (lv_at hl 1 rfl) ?_
            refine lv_iload_n C.1 C.2.1 dX3_joined_67 rfl (lv_at hl 2 rfl) ?_
            refine lv_ior C.1 C.2.1 dX3_joined_68 ?_
            rw [← Option.some.inj h]
            exact rtI C X dX3_joined_69

theorem c_X3_joined (l : Launch) (E : GE) {σ : Mem} {x0 : Int32} {x1 : Int32} {x2 : Int32} {r : Int32} (h : X3_joined σ x0 x1 x2 = some r) : CtI l E yX3_joined cX3_joined 3 .int 1 [.int x0, .int x1, .int x2] σ r σ := by
  refine Met.ofW (cc := cX3_joined) (maxL := 3) (ret := (some .int)) (by decide) rfl ?_
  intro p e s m args below meth c s₁ B hml hv
  obtain ⟨rfl, G, X⟩ := start hv
  have C := cxof B hml
  have hl := lv_entry [.int x0, .int x1, .int x2] (n := 3) (Nat.le_of_ble_eq_true rfl)
  rw [lg_entry_eq]
  generalize (lg_sl [.int x0, .int x1, .int x2] ++ List.replicate (3 - (lg_sl [.int x0, .int x1, .int x2]).length) Slot.unset).toArray = ls at hl ⊢
  exact w_X3_joined C G X hl h

set_option maxRecDepth 20000 in
theorem w_X3_holds_21 {r : (Int32 × Mem)} (C : Cx p s m args meth c cX3_holds (some .boolean) 5 RX3) (G : Gf E s) : ∀ (f : Nat) {a0 : Nat} {x1 : Int32} {x2 : Int32} {x3 : Int32} {σ : Mem} {ls : Array Slot} {H : Heap} {locs : List Loc}, Hx E σ s H locs → kd a0 = 3 → lv_has ls 5 [(0, .ref (gB E + a0)), (1, .int x1), (2, .int x2), (3, .int x3)] → X3_holds_21 f a0 x1 x2 x3 σ = some r → W p l e (RM 2) s m args below meth c H locs 0 0 (QI E below args s r.1 r.2) (F0 m 21 ls []) := by
  intro f
  induction f with
  | zero =>
    intro a0 x1 x2 x3 σ ls H locs X hk_a0 hl h
    rw [X3_holds_21] at h
    cases h
  | succ f ih =>
    intro a0 x1 x2 x3 σ ls H locs X hk_a0 hl h
    rw [X3_holds_21] at h
    refine lv_iload_n C.1 C.2.1 dX3_holds_21 rfl (lv_at hl 3 rfl) ?_
    refine lv_aload_n C.1 C.2.1 dX3_holds_22 rfl (lv_at hl 0 rfl) ?_
    refine gfX3 C G X (k := a0) hk_a0 3 (v := .ref (gB E + (a0 + 5))) rfl rfl (by decide) k_318 rfl dX3_holds_23 ?_
    refine lv_iload_n C.1 C.2.1 dX3_holds_26 rfl (lv_at hl 1 rfl) ?_
    obtain ⟨r27, e27, h⟩ := bnd h
    refine afI X (runV C G X q_X6_get k_498 k_499 k_541 (rcX6 G X (kf_3_5 hk_a0)) (c_X6_get l E (kf_3_5 hk_a0) e27) rfl hl.1 rfl (Nat.le_of_ble_eq_true rfl) ⟨Nat.le_of_ble_eq_true rfl, Nat.le_of_ble_eq_true rfl⟩ ⟨Nat.le_of_ble_eq_true rfl, Nat.le_of_ble_eq_true rfl⟩ dX3_holds_27) (fun H locs X => ?_)
    refine lv_icmp_ge (tgt := 167) C.1 C.2.1 dX3_holds_30 (by decide) (fun c30 => ?_) (fun c30 => ?_)
    · replace h := ipos c30 h
      refine lv_iload_n C.1 C.2.1 dX3_holds_167 rfl (lv_at hl 2 rfl) ?_
      refine lv_if_lt (tgt := 182) C.1 C.2.1 dX3_holds_168 (by decide) (fun c168 => ?_) (fun c168 => ?_)
      · replace h := ipos c168 h
        refine lv_iconst (v := 1) C.1 C.2.1 dX3_holds_182 (by decide) ?_
        refine lv_goto (tgt := 187) C.1 C.2.1 dX3_holds_183 (by decide) ?_
        obtain ⟨u187, z187, h⟩ := bnd h
        rw [← Option.some.inj h]
        exact rtZ C X (gb_s z187) dX3_holds_187
      · replace h := ineg c168 h
        refine lv_aload_n C.1 C.2.1 dX3_holds_171 rfl (lv_at hl 0 rfl) ?_
        refine gfX3 C G X (k := a0) hk_a0 7 (v := .ref (gB E + (a0 + 11))) rfl rfl (by decide) k_322 rfl dX3_holds_172 ?_
        refine lv_iload_n C.1 C.2.1 dX3_holds_175 rfl (lv_at hl 2 rfl) ?_
        obtain ⟨r176, e176, h⟩ := bnd h
        refine afI X (runV C G X q_X6_get k_498 k_499 k_541 (rcX6 G X (kf_3_11 hk_a0)) (c_X6_get l E (kf_3_11 hk_a0) e176) rfl hl.1 rfl (Nat.le_of_ble_eq_true rfl) ⟨Nat.le_of_ble_eq_true rfl, Nat.le_of_ble_eq_true rfl⟩ ⟨Nat.le_of_ble_eq_true rfl, Nat.le_of_ble_eq_true rfl⟩ dX3_holds_176) (fun H locs X => ?_)
        refine lv_if_eq (tgt := 186) C.1 C.2.1 dX3_holds_179 (by decide) (fun c179 => ?_) (fun c179 => ?_)
        · replace h := ipos c179 h
          refine lv_iconst (v := 0) C.1 C.2.1 dX3_holds_186 (by decide) ?_
          obtain ⟨u187, z187, h⟩ := bnd h
          rw [← Option.some.inj h]
          exact rtZ C X (gb_s z187) dX3_holds_187
        · replace h := ineg c179 h
          refine lv_iconst (v := 1) C.1 C.2.1 dX3_holds_182 (by decide) ?_
          refine lv_goto (tgt := 187) C.1 C.2.1 dX3_holds_183 (by decide) ?_
          obtain ⟨u187, z187, h⟩ := bnd h
          rw [← Option.some.inj h]
          exact rtZ C X (gb_s z187) dX3_holds_187
    · replace h := ineg c30 h
      refine lv_aload_n C.1 C.2.1 dX3_holds_33 rfl (lv_at hl 0 rfl) ?_
      refine gfX3 C G X (k := a0) hk_a0 4 (v := .ref (gB E + (a0 + 7))) rfl rfl (by decide) k_319 rfl dX3_holds_34 ?_
      refine lv_iload_n C.1 C.2.1 dX3_holds_37 rfl (lv_at hl 3 rfl) ?_
      obtain ⟨r38, e38, h⟩ := bnd h
      refine afI X (runV C G X q_X6_get k_498 k_499 k_541 (rcX6 G X (kf_3_7 hk_a0)) (c_X6_get l E (kf_3_7 hk_a0) e38) rfl hl.1 rfl (Nat.le_of_ble_eq_true rfl) ⟨Nat.le_of_ble_eq_true rfl, Nat.le_of_ble_eq_true rfl⟩ ⟨Nat.le_of_ble_eq_true rfl, Nat.le_of_ble_eq_true rfl⟩ dX3_holds_38) (fun H locs X => ?_)
      refine lv_istore (lv' := [(4, .int r38), (0, .ref (gB E + a0)), (1, .int x1), (2, .int x2), (3, .int x3)]) C.1 C.2.1 dX3_holds_41 hl (by decide) rfl (fun ls hl => ?_)
      refine lv_iload C.1 C.2.1 dX3_holds_43 (lv_at hl 0 rfl) ?_
      refine lv_sipush (v := 1000) C.1 C.2.1 dX3_holds_45 (by decide) ?_
      refine lv_icmp_lt (tgt := 78) C.1 C.2.1 dX3_holds_48 (by decide) (fun c48 => ?_) (fun c48 => ?_)
      · replace h := ipos c48 h
        refine lv_iload C.1 C.2.1 dX3_holds_78 (lv_at hl 0 rfl) ?_
        refine lv_if_lt (tgt := 99) C.1 C.2.1 dX3_holds_80 (by decide) (fun c80 => ?_) (fun c80 => ?_)
        · replace h := ipos c80 h
          refine lv_iload C.1 C.2.1 dX3_holds_99 (lv_at hl 0 rfl) ?_
          refine lv_bipush (v := -4) C.1 C.2.1 dX3_holds_101 (by decide) ?_
          refine lv_icmp_ne (tgt := 127) C.1 C.2.1 dX3_holds_103 (by decide) (fun c103 => ?_) (fun c103 => ?_)
          · replace h := ineg c103 h
            refine lv_iinc (v := (x2 + (-1))) (lv' := [(2, .int (x2 + (-1))), (4, .int r38), (0, .ref (gB E + a0)), (1, .int x1), (3, .int x3)]) C.1 C.2.1 dX3_holds_127 hl (k := 3) rfl rfl (by decide) rfl (fun ls hl => ?_)
            refine lv_aload_n C.1 C.2.1 dX3_holds_130 rfl (lv_at hl 2 rfl) ?_
            refine gfX3 C G X (k := a0) hk_a0 7 (v := .ref (gB E + (a0 + 11))) rfl rfl (by decide) k_322 rfl dX3_holds_131 ?_
            refine lv_iload_n C.1 C.2.1 dX3_holds_134 rfl (lv_at hl 0 rfl) ?_
            refine lv_iload C.1 C.2.1 dX3_holds_135 (lv_at hl 1 rfl) ?_
            refine lv_aload_n C.1 C.2.1 dX3_holds_137 rfl (lv_at hl 2 rfl) ?_
            refine gfX3 C G X (k := a0) hk_a0 7 (v := .ref (gB E + (a0 + 11))) rfl rfl (by decide) k_322 rfl dX3_holds_138 ?_
            refine lv_iload_n C.1 C.2.1 dX3_holds_141 rfl (lv_at hl 0 rfl) ?_
            obtain ⟨r142, e142, h⟩ := bnd h
            refine afI X (runV C G X q_X6_get k_498 k_499 k_541 (rcX6 G X (kf_3_11 hk_a0)) (c_X6_get l E (kf_3_11 hk_a0) e142) rfl hl.1 rfl (Nat.le_of_ble_eq_true rfl) ⟨Nat.le_of_ble_eq_true rfl, Nat.le_of_ble_eq_true rfl⟩ ⟨Nat.le_of_ble_eq_true rfl, Nat.le_of_ble_eq_true rfl⟩ dX3_holds_142) (fun H locs X => ?_)
            refine lv_aload_n C.1 C.2.1 dX3_holds_145 rfl (lv_at hl 2 rfl) ?_
            refine gfX3 C G X (k := a0) hk_a0 7 (v := .ref (gB E + (a0 + 11))) rfl rfl (by decide) k_322 rfl dX3_holds_146 ?_
            refine lv_iload_n C.1 C.2.1 dX3_holds_149 rfl (lv_at hl 0 rfl) ?_
            refine lv_iconst (v := 1) C.1 C.2.1 dX3_holds_150 (by decide) ?_
            refine lv_iadd C.1 C.2.1 dX3_holds_151 ?_
            obtain ⟨r152, e152, h⟩ := bnd h
            refine afI X (runV C G X q_X6_get k_498 k_499 k_541 (rcX6 G X (kf_3_11 hk_a0)) (c_X6_get l E (kf_3_11 hk_a0) e152) rfl hl.1 rfl (Nat.le_of_ble_eq_true rfl) ⟨Nat.le_of_ble_eq_true rfl, Nat.le_of_ble_eq_true rfl⟩ ⟨Nat.le_of_ble_eq_true rfl, Nat.le_of_ble_eq_true rfl⟩ dX3_holds_152) (fun H locs X => ?_)
            obtain ⟨r155, e155, h⟩ := bnd h
            refine afI X (runS C G X q_X3_joined k_572 k_571 (c_X3_joined l E e155) rfl hl.1 rfl (Nat.le_of_ble_eq_true rfl) ⟨Nat.le_of_ble_eq_true rfl, Nat.le_of_ble_eq_true rfl⟩ ⟨Nat.le_of_ble_eq_true rfl, Nat.le_of_ble_eq_true rfl⟩ dX3_holds_155) (fun H locs X => ?_)
            obtain ⟨σ158, e158, h⟩ := bnd h
            refine afV X (runV C G X q_X6_set k_451 k_452 k_548 (rcX6 G X (kf_3_11 hk_a0)) (c_X6_set l E (kf_3_11 hk_a0) e158) rfl hl.1 rfl (Nat.le_of_ble_eq_true rfl) ⟨Nat.le_of_ble_eq_true rfl, Nat.le_of_ble_eq_true rfl⟩ ⟨Nat.le_of_ble_eq_true rfl, Nat.le_of_ble_eq_true rfl⟩ dX3_holds_158) (fun H locs X => ?_)
            refine lv_iinc (v := (x3 + 1)) (lv' := [(3, .int (x3 + 1)), (2, .int (x2 + (-1))), (4, .int r38), (0, .ref (gB E + a0)), (1, .int x1)]) C.1 C.2.1 dX3_holds_161 hl (k := 4) rfl rfl (by decide) rfl (fun ls hl => ?_)
            refine lv_goto (tgt := 21) C.1 C.2.1 dX3_holds_164 (by decide) ?_
            exact ih X hk_a0 (lv_sub hl [3, 4, 1, 0] rfl) h
          · replace h := ipos c103 h
            refine lv_aload_n C.1 C.2.1 dX3_holds_106 rfl (lv_at hl 1 rfl) ?_
            refine gfX3 C G X (k := a0) hk_a0 7 (v := .ref (gB E + (a0 + 11))) rfl rfl (by decide) k_322 rfl dX3_holds_107 ?_
            refine lv_iload_n C.1 C.2.1 dX3_holds_110 rfl (lv_at hl 3 rfl) ?_
            refine lv_iconst (v := 1) C.1 C.2.1 dX3_holds_111 (by decide) ?_
            refine lv_aload_n C.1 C.2.1 dX3_holds_112 rfl (lv_at hl 1 rfl) ?_
            refine gfX3 C G X (k := a0) hk_a0 7 (v := .ref (gB E + (a0 + 11))) rfl rfl (by decide) k_322 rfl dX3_holds_113 ?_
            refine lv_iload_n C.1 C.2.1 dX3_holds_116 rfl (lv_at hl 3 rfl) ?_
            obtain ⟨r117, e117, h⟩ := bnd h
            refine afI X (runV C G X q_X6_get k_498 k_499 k_541 (rcX6 G X (kf_3_11 hk_a0)) (c_X6_get l E (kf_3_11 hk_a0) e117) rfl hl.1 rfl (Nat.le_of_ble_eq_true rfl) ⟨Nat.le_of_ble_eq_true rfl, Nat.le_of_ble_eq_true rfl⟩ ⟨Nat.le_of_ble_eq_true rfl, Nat.le_of_ble_eq_true rfl⟩ dX3_holds_117) (fun H locs X => ?_)
            refine lv_isub C.1 C.2.1 dX3_holds_120 ?_
            obtain ⟨σ121, e121, h⟩ := bnd h
            refine afV X (runV C G X q_X6_set k_451 k_452 k_548 (rcX6 G X (kf_3_11 hk_a0)) (c_X6_set l E (kf_3_11 hk_a0) e121) rfl hl.1 rfl (Nat.le_of_ble_eq_true rfl) ⟨Nat.le_of_ble_eq_true rfl, Nat.le_of_ble_eq_true rfl⟩ ⟨Nat.le_of_ble_eq_true rfl, Nat.le_of_ble_eq_true rfl⟩ dX3_holds_121) (fun H locs X => ?_)
            refine lv_goto (tgt := 161) C.1 C.2.1 dX3_holds_124 (by decide) ?_
            refine lv_iinc (v := (x3 + 1)) (lv' := [(3, .int (x3 + 1)), (4, .int r38), (0, .ref (gB E + a0)), (1, .int x1), (2, .int x2)]) C.1 C.2.1 dX3_holds_161 hl (k := 4) rfl rfl (by decide) rfl (fun ls hl => ?_)
            refine lv_goto (tgt := 21) C.1 C.2.1 dX3_holds_164 (by decide) ?_
            exact ih X hk_a0 (lv_sub hl [2, 3, 4, 0] rfl) h
        · replace h := ineg c80 h
          refine lv_iinc (v := (x2 + 1)) (lv' := [(2, .int (x2 + 1)), (4, .int r38), (0, .ref (gB E + a0)), (1, .int x1), (3, .int x3)]) C.1 C.2.1 dX3_holds_83 hl (k := 3) rfl rfl (by decide) rfl (fun ls hl => ?_)
          refine lv_aload_n C.1 C.2.1 dX3_holds_86 rfl (lv_at hl 2 rfl) ?_
          refine gfX3 C G X (k := a0) hk_a0 7 (v := .ref (gB E + (a0 + 11))) rfl rfl (by decide) k_322 rfl dX3_holds_87 ?_
          refine lv_iload_n C.1 C.2.1 dX3_holds_90 rfl (lv_at hl 0 rfl) ?_
          refine lv_iload C.1 C.2.1 dX3_holds_91 (lv_at hl 1 rfl) ?_
          obtain ⟨σ93, e93, h⟩ := bnd h
          refine afV X (runV C G X q_X6_set k_451 k_452 k_548 (rcX6 G X (kf_3_11 hk_a0)) (c_X6_set l E (kf_3_11 hk_a0) e93) rfl hl.1 rfl (Nat.le_of_ble_eq_true rfl) ⟨Nat.le_of_ble_eq_true rfl, Nat.le_of_ble_eq_true rfl⟩ ⟨Nat.le_of_ble_eq_true rfl, Nat.le_of_ble_eq_true rfl⟩ dX3_holds_93) (fun H locs X => ?_)
          refine lv_goto (tgt := 161) C.1 C.2.1 dX3_holds_96 (by decide) ?_
          refine lv_iinc (v := (x3 + 1)) (lv' := [(3, .int (x3 + 1)), (2, .int (x2 + 1)), (4, .int r38), (0, .ref (gB E + a0)), (1, .int x1)]) C.1 C.2.1 dX3_holds_161 hl (k := 4) rfl rfl (by decide) rfl (fun ls hl => ?_)
          refine lv_goto (tgt := 21) C.1 C.2.1 dX3_holds_164 (by decide) ?_
          exact ih X hk_a0 (lv_sub hl [3, 4, 1, 0] rfl) h
      · replace h := ineg c48 h
        refine lv_iinc (v := (x2 + 1)) (lv' := [(2, .int (x2 + 1)), (4, .int r38), (0, .ref (gB E + a0)), (1, .int x1), (3, .int x3)]) C.1 C.2.1 dX3_holds_51 hl (k := 3) rfl rfl (by decide) rfl (fun ls hl => ?_)
        refine lv_aload_n C.1 C.2.1 dX3_holds_54 rfl (lv_at hl 2 rfl) ?_
        refine gfX3 C G X (k := a0) hk_a0 7 (v := .ref (gB E + (a0 + 11))) rfl rfl (by decide) k_322 rfl dX3_holds_55 ?_
        refine lv_iload_n C.1 C.2.1 dX3_holds_58 rfl (lv_at hl 0 rfl) ?_
        refine lv_aload_n C.1 C.2.1 dX3_holds_59 rfl (lv_at hl 2 rfl) ?_
        refine gfX3 C G X (k := a0) hk_a0 6 (v := .ref (gB E + (a0 + 9))) rfl rfl (by decide) k_321 rfl dX3_holds_60 ?_
        refine lv_iload C.1 C.2.1 dX3_holds_63 (lv_at hl 1 rfl) ?_
        refine lv_sipush (v := 1000) C.1 C.2.1 dX3_holds_65 (by decide) ?_
        refine lv_isub C.1 C.2.1 dX3_holds_68 ?_
        obtain ⟨r69, e69, h⟩ := bnd h
        refine afI X (runV C G X q_X6_get k_498 k_499 k_541 (rcX6 G X (kf_3_9 hk_a0)) (c_X6_get l E (kf_3_9 hk_a0) e69) rfl hl.1 rfl (Nat.le_of_ble_eq_true rfl) ⟨Nat.le_of_ble_eq_true rfl, Nat.le_of_ble_eq_true rfl⟩ ⟨Nat.le_of_ble_eq_true rfl, Nat.le_of_ble_eq_true rfl⟩ dX3_holds_69) (fun H locs X => ?_)
        obtain ⟨σ72, e72, h⟩ := bnd h
        refine afV X (runV C G X q_X6_set k_451 k_452 k_548 (rcX6 G X (kf_3_11 hk_a0)) (c_X6_set l E (kf_3_11 hk_a0) e72) rfl hl.1 rfl (Nat.le_of_ble_eq_true rfl) ⟨Nat.le_of_ble_eq_true rfl, Nat.le_of_ble_eq_true rfl⟩ ⟨Nat.le_of_ble_eq_true rfl, Nat.le_of_ble_eq_true rfl⟩ dX3_holds_72) (fun H locs X => ?_)
        refine lv_goto (tgt := 161) C.1 C.2.1 dX3_holds_75 (by decide) ?_
        refine lv_iinc (v := (x3 + 1)) (lv' := [(3, .int (x3 + 1)), (2, .int (x2 + 1)), (4, .int r38), (0, .ref (gB E + a0)), (1, .int x1)]) C.1 C.2.1 dX3_holds_161 hl (k := 4) rfl rfl (by decide) rfl (fun ls hl => ?_)
        refine lv_goto (tgt := 21) C.1 C.2.1 dX3_holds_164 (by decide) ?_
        exact ih X hk_a0 (lv_sub hl [3, 4, 1, 0] rfl) h

set_option maxRecDepth 20000 in
theorem w_X3_holds_20 {r : (Int32 × Mem)} {σ : Mem} {a0 : Nat} {x1 : Int32} {x2 : Int32} {y0 : Int32} {ls : Array Slot} {H : Heap} {locs : List Loc} (C : Cx p s m args meth c cX3_holds (some .boolean) 5 RX3) (G : Gf E s) (X : Hx E σ s H locs) (hk_a0 : kd a0 = 3) (hl : lv_has ls 5 [(0, .ref (gB E + a0)), (1, .int x1), (2, .int x2)]) (h : X3_holds_20 a0 x1 x2 y0 σ = some r) : W p l e (RM 2) s m args below meth c H locs 0 0 (QI E below args s r.1 r.2) (F0 m 20 ls [.int y0]) := by
  rw [X3_holds_20] at h
  refine lv_istore_n (lv' := [(3, .int y0), (0, .ref (gB E + a0)), (1, .int x1), (2, .int x2)]) C.1 C.2.1 dX3_holds_20 rfl hl (by decide) rfl (fun ls hl => ?_)
  exact w_X3_holds_21 C G FU X hk_a0 (lv_sub hl [1, 2, 3, 0] rfl) h

set_option maxRecDepth 20000 in
theorem w_X3_holds {r : (Int32 × Mem)} {σ : Mem} {a0 : Nat} {x1 : Int32} {ls : Array Slot} {H : Heap} {locs : List Loc} (C : Cx p s m args meth c cX3_holds (some .boolean) 5 RX3) (G : Gf E s) (X : Hx E σ s H locs) (hk_a0 : kd a0 = 3) (hl : lv_has ls 5 [(0, .ref (gB E + a0)), (1, .int x1)]) (h : X3_holds a0 x1 σ = some r) : W p l e (RM 2) s m args below meth c H locs 0 0 (QI E below args s r.1 r.2) (F0 m 0 ls []) := by
  rw [X3_holds] at h
  refine lv_iconst (v := -1) C.1 C.2.1 dX3_holds_0 (by decide) ?_
  refine lv_istore_n (lv' := [(2, .int (-1 : Int32)), (0, .ref (gB E + a0)), (1, .int x1)]) C.1 C.2.1 dX3_holds_1 rfl hl (by decide) rfl (fun ls hl => ?_)
  refine lv_iload_n C.1 C.2.1 dX3_holds_2 rfl (lv_at hl 2 rfl) ?_
  refine lv_if_le (tgt := 19) C.1 C.2.1 dX3_holds_3 (by decide) (fun c3 => ?_) (fun c3 => ?_)
  · replace h := ipos c3 h
    refine lv_iconst (v := 0) C.1 C.2.1 dX3_holds_19 (by decide) ?_
    exact w_X3_holds_20 C G X hk_a0 (lv_sub hl [1, 2, 0] rfl) h
  · replace h := ineg c3 h
    refine lv_aload_n C.1 C.2.1 dX3_holds_6 rfl (lv_at hl 1 rfl) ?_
    refine gfX3 C G X (k := a0) hk_a0 3 (v := .ref (gB E + (a0 + 5))) rfl rfl (by decide) k_318 rfl dX3_holds_7 ?_
    refine lv_iload_n C.1 C.2.1 dX3_holds_10 rfl (lv_at hl 2 rfl) ?_
    refine lv_iconst (v := 1) C.1 C.2.1 dX3_holds_11 (by decide) ?_
    refine lv_isub C.1 C.2.1 dX3_holds_12 ?_
    obtain ⟨r13, e13, h⟩ := bnd h
    refine afI X (runV C G X q_X6_get k_498 k_499 k_541 (rcX6 G X (kf_3_5 hk_a0)) (c_X6_get l E (kf_3_5 hk_a0) e13) rfl hl.1 rfl (Nat.le_of_ble_eq_true rfl) ⟨Nat.le_of_ble_eq_true rfl, Nat.le_of_ble_eq_true rfl⟩ ⟨Nat.le_of_ble_eq_true rfl, Nat.le_of_ble_eq_true rfl⟩ dX3_holds_13) (fun H locs X => ?_)
    refine lv_goto (tgt := 20) C.1 C.2.1 dX3_holds_16 (by decide) ?_
    exact w_X3_holds_20 C G X hk_a0 (lv_sub hl [1, 2, 0] rfl) h

theorem c_X3_holds (l : Launch) (E : GE) {σ : Mem} {a0 : Nat} {x1 : Int32} (hk_a0 : kd a0 = 3) {r : (Int32 × Mem)} (h : X3_holds a0 x1 σ = some r) : CtI l E yX3_holds cX3_holds 5 .boolean 2 [.ref (gB E + a0), .int x1] σ r.1 r.2 := by
  refine Met.ofW (cc := cX3_holds) (maxL := 5) (ret := (some .boolean)) (by decide) rfl ?_
  intro p e s m args below meth c s₁ B hml hv
  obtain ⟨rfl, G, X⟩ := start hv
  have C := cxof B hml
  have hl := lv_entry [.ref (gB E + a0), .int x1] (n := 5) (Nat.le_of_ble_eq_true rfl)
  rw [lg_entry_eq]
  generalize (lg_sl [.ref (gB E + a0), .int x1] ++ List.replicate (5 - (lg_sl [.ref (gB E + a0), .int x1]).length) Slot.unset).toArray = ls at hl ⊢
  exact w_X3_holds C G X hk_a0 hl h

set_option maxRecDepth 20000 in
theorem w_X3_willNow_16 {r : (Int32 × Mem)} (C : Cx p s m args meth c cX3_willNow (some .int) 3 RX3) (G : Gf E s) : ∀ (f : Nat) {a0 : Nat} {x1 : Int32} {x2 : Int32} {σ : Mem} {ls : Array Slot} {H : Heap} {locs : List Loc}, Hx E σ s H locs → kd a0 = 3 → lv_has ls 3 [(0, .ref (gB E + a0)), (1, .int x1), (2, .int x2)] → X3_willNow_16 f a0 x1 x2 σ = some r → W p l e (RM 3) s m args below meth c H locs 0 0 (QI E below args s r.1 r.2) (F0 m 16 ls []) := by
  intro f
  induction f with
  | zero =>
    intro a0 x1 x2 σ ls H locs X hk_a0 hl h
    rw [X3_willNow_16] at h
    cases h
  | succ f ih =>
    intro a0 x1 x2 σ ls H locs X hk_a0 hl h
    rw [X3_willNow_16] at h
    refine lv_iload_n C.1 C.2.1 dX3_willNow_16 rfl (lv_at hl 2 rfl) ?_
    refine lv_aload_n C.1 C.2.1 dX3_willNow_17 rfl (lv_at hl 0 rfl) ?_
    refine gfX3 C G X (k := a0) hk_a0 0 (v := .int (σ a0 0)) rfl rfl (by decide) k_314 rfl dX3_willNow_18 ?_
    refine lv_icmp_ge (tgt := 60) C.1 C.2.1 dX3_willNow_21 (by decide) (fun c21 => ?_) (fun c21 => ?_)
    · replace h := ipos c21 h
      refine lv_iload_n C.1 C.2.1 dX3_willNow_60 rfl (lv_at hl 1 rfl) ?_
      rw [← Option.some.inj h]
      exact rtI C X dX3_willNow_61
    · replace h := ineg c21 h
      refine lv_aload_n C.1 C.2.1 dX3_willNow_24 rfl (lv_at hl 0 rfl) ?_
      refine gfX3 C G X (k := a0) hk_a0 1 (v := .ref (gB E + (a0 + 1))) rfl rfl (by decide) k_316 rfl dX3_willNow_25 ?_
      refine lv_iload_n C.1 C.2.1 dX3_willNow_28 rfl (lv_at hl 2 rfl) ?_
      obtain ⟨r29, e29, h⟩ := bnd h
      refine afI X (runV C G X q_X6_get k_498 k_499 k_541 (rcX6 G X (kf_3_1 hk_a0)) (c_X6_get l E (kf_3_1 hk_a0) e29) rfl hl.1 rfl (Nat.le_of_ble_eq_true rfl) ⟨Nat.le_of_ble_eq_true rfl, Nat.le_of_ble_eq_true rfl⟩ ⟨Nat.le_of_ble_eq_true rfl, Nat.le_of_ble_eq_true rfl⟩ dX3_willNow_29) (fun H locs X => ?_)
      refine lv_if_eq (tgt := 54) C.1 C.2.1 dX3_willNow_32 (by decide) (fun c32 => ?_) (fun c32 => ?_)
      · replace h := ipos c32 h
        refine lv_iinc (v := (x2 + 1)) (lv' := [(2, .int (x2 + 1)), (0, .ref (gB E + a0)), (1, .int x1)]) C.1 C.2.1 dX3_willNow_54 hl (k := 2) rfl rfl (by decide) rfl (fun ls hl => ?_)
        refine lv_goto (tgt := 16) C.1 C.2.1 dX3_willNow_57 (by decide) ?_
        exact ih X hk_a0 (lv_sub hl [1, 2, 0] rfl) h
      · replace h := ineg c32 h
        refine lv_aload_n C.1 C.2.1 dX3_willNow_35 rfl (lv_at hl 0 rfl) ?_
        refine lv_iload_n C.1 C.2.1 dX3_willNow_36 rfl (lv_at hl 2 rfl) ?_
        obtain ⟨r37, σ37, e37, h⟩ := bnd2 h
        refine afI (r0 := r37) (σ' := σ37) X (runV C G X q_X3_holds k_569 kp_2 k_567 (rcX3 G X hk_a0) (c_X3_holds l E hk_a0 e37) rfl hl.1 rfl (Nat.le_of_ble_eq_true rfl) ⟨Nat.le_of_ble_eq_true rfl, Nat.le_of_ble_eq_true rfl⟩ ⟨Nat.le_of_ble_eq_true rfl, Nat.le_of_ble_eq_true rfl⟩ dX3_willNow_37) (fun H locs X => ?_)
        refine lv_if_eq (tgt := 54) C.1 C.2.1 dX3_willNow_40 (by decide) (fun c40 => ?_) (fun c40 => ?_)
        · replace h := ipos c40 h
          refine lv_iinc (v := (x2 + 1)) (lv' := [(2, .int (x2 + 1)), (0, .ref (gB E + a0)), (1, .int x1)]) C.1 C.2.1 dX3_willNow_54 hl (k := 2) rfl rfl (by decide) rfl (fun ls hl => ?_)
          refine lv_goto (tgt := 16) C.1 C.2.1 dX3_willNow_57 (by decide) ?_
          exact ih X hk_a0 (lv_sub hl [1, 2, 0] rfl) h
        · replace h := ineg c40 h
          refine lv_iload_n C.1 C.2.1 dX3_willNow_43 rfl (lv_at hl 1 rfl) ?_
          refine lv_aload_n C.1 C.2.1 dX3_willNow_44 rfl (lv_at hl 0 rfl) ?_
          refine gfX3 C G X (k := a0) hk_a0 1 (v := .ref (gB E + (a0 + 1))) rfl rfl (by decide) k_316 rfl dX3_willNow_45 ?_
          refine lv_iload_n C.1 C.2.1 dX3_willNow_48 rfl (lv_at hl 2 rfl) ?_
          obtain ⟨r49, e49, h⟩ := bnd h
          refine afI X (runV C G X q_X6_get k_498 k_499 k_541 (rcX6 G X (kf_3_1 hk_a0)) (c_X6_get l E (kf_3_1 hk_a0) e49) rfl hl.1 rfl (Nat.le_of_ble_eq_true rfl) ⟨Nat.le_of_ble_eq_true rfl, Nat.le_of_ble_eq_true rfl⟩ ⟨Nat.le_of_ble_eq_true rfl, Nat.le_of_ble_eq_true rfl⟩ dX3_willNow_49) (fun H locs X => ?_)
          refine lv_iadd C.1 C.2.1 dX3_willNow_52 ?_
          refine lv_istore_n (lv' := [(1, .int (x1 + r49)), (0, .ref (gB E + a0)), (2, .int x2)]) C.1 C.2.1 dX3_willNow_53 rfl hl (by decide) rfl (fun ls hl => ?_)
          refine lv_iinc (v := (x2 + 1)) (lv' := [(2, .int (x2 + 1)), (1, .int (x1 + r49)), (0, .ref (gB E + a0))]) C.1 C.2.1 dX3_willNow_54 hl (k := 2) rfl rfl (by decide) rfl (fun ls hl => ?_)
          refine lv_goto (tgt := 16) C.1 C.2.1 dX3_willNow_57 (by decide) ?_
          exact ih X hk_a0 (lv_sub hl [2, 1, 0] rfl) h

set_option maxRecDepth 20000 in
theorem w_X3_willNow {r : (Int32 × Mem)} {σ : Mem} {a0 : Nat} {ls : Array Slot} {H : Heap} {locs : List Loc} (C : Cx p s m args meth c cX3_willNow (some .int) 3 RX3) (G : Gf E s) (X : Hx E σ s H locs) (hk_a0 : kd a0 = 3) (hl : lv_has ls 3 [(0, .ref (gB E + a0))]) (h : X3_willNow a0 σ = some r) : W p l e (RM 3) s m args below meth c H locs 0 0 (QI E below args s r.1 r.2) (F0 m 0 ls []) := by
  rw [X3_willNow] at h
  refine lv_aload_n C.1 C.2.1 dX3_willNow_0 rfl (lv_at hl 0 rfl) ?_
  refine gfX3 C G X (k := a0) hk_a0 6 (v := .ref (gB E + (a0 + 9))) rfl rfl (by decide) k_321 rfl dX3_willNow_1 ?_
  refine gsT C G X (i := 14) (x := 15) (by decide) (by decide) (nm := "LIKES") rfl k_557 dX3_willNow_4 ?_
  obtain ⟨r7, e7, h⟩ := bnd h
  refine gfFa C G X e7 k_2316 dX3_willNow_7 ?_
  obtain ⟨r10, e10, h⟩ := bnd h
  refine afI X (runV C G X q_X6_get k_498 k_499 k_541 (rcX6 G X (kf_3_9 hk_a0)) (c_X6_get l E (kf_3_9 hk_a0) e10) rfl hl.1 rfl (Nat.le_of_ble_eq_true rfl) ⟨Nat.le_of_ble_eq_true rfl, Nat.le_of_ble_eq_true rfl⟩ ⟨Nat.le_of_ble_eq_true rfl, Nat.le_of_ble_eq_true rfl⟩ dX3_willNow_10) (fun H locs X => ?_)
  refine lv_istore_n (lv' := [(1, .int r10), (0, .ref (gB E + a0))]) C.1 C.2.1 dX3_willNow_13 rfl hl (by decide) rfl (fun ls hl => ?_)
  refine lv_iconst (v := 0) C.1 C.2.1 dX3_willNow_14 (by decide) ?_
  refine lv_istore_n (lv' := [(2, .int (0 : Int32)), (1, .int r10), (0, .ref (gB E + a0))]) C.1 C.2.1 dX3_willNow_15 rfl hl (by decide) rfl (fun ls hl => ?_)
  exact w_X3_willNow_16 C G FU X hk_a0 (lv_sub hl [2, 1, 0] rfl) h

theorem c_X3_willNow (l : Launch) (E : GE) {σ : Mem} {a0 : Nat} (hk_a0 : kd a0 = 3) {r : (Int32 × Mem)} (h : X3_willNow a0 σ = some r) : CtI l E yX3_willNow cX3_willNow 3 .int 3 [.ref (gB E + a0)] σ r.1 r.2 := by
  refine Met.ofW (cc := cX3_willNow) (maxL := 3) (ret := (some .int)) (by decide) rfl ?_
  intro p e s m args below meth c s₁ B hml hv
  obtain ⟨rfl, G, X⟩ := start hv
  have C := cxof B hml
  have hl := lv_entry [.ref (gB E + a0)] (n := 3) (Nat.le_of_ble_eq_true rfl)
  rw [lg_entry_eq]
  generalize (lg_sl [.ref (gB E + a0)] ++ List.replicate (3 - (lg_sl [.ref (gB E + a0)]).length) Slot.unset).toArray = ls at hl ⊢
  exact w_X3_willNow C G X hk_a0 hl h

set_option maxRecDepth 20000 in
theorem w_X3_passesNow_2 {r : (Int32 × Mem)} (C : Cx p s m args meth c cX3_passesNow (some .boolean) 2 RX3) (G : Gf E s) : ∀ (f : Nat) {a0 : Nat} {x1 : Int32} {σ : Mem} {ls : Array Slot} {H : Heap} {locs : List Loc}, Hx E σ s H locs → kd a0 = 3 → lv_has ls 2 [(0, .ref (gB E + a0)), (1, .int x1)] → X3_passesNow_2 f a0 x1 σ = some r → W p l e (RM 3) s m args below meth c H locs 0 0 (QI E below args s r.1 r.2) (F0 m 2 ls []) := by
  intro f
  induction f with
  | zero =>
    intro a0 x1 σ ls H locs X hk_a0 hl h
    rw [X3_passesNow_2] at h
    cases h
  | succ f ih =>
    intro a0 x1 σ ls H locs X hk_a0 hl h
    rw [X3_passesNow_2] at h
    refine lv_iload_n C.1 C.2.1 dX3_passesNow_2 rfl (lv_at hl 1 rfl) ?_
    refine lv_aload_n C.1 C.2.1 dX3_passesNow_3 rfl (lv_at hl 0 rfl) ?_
    refine gfX3 C G X (k := a0) hk_a0 0 (v := .int (σ a0 0)) rfl rfl (by decide) k_314 rfl dX3_passesNow_4 ?_
    refine lv_icmp_ge (tgt := 37) C.1 C.2.1 dX3_passesNow_7 (by decide) (fun c7 => ?_) (fun c7 => ?_)
    · replace h := ipos c7 h
      refine lv_iconst (v := 0) C.1 C.2.1 dX3_passesNow_37 (by decide) ?_
      obtain ⟨u38, z38, h⟩ := bnd h
      rw [← Option.some.inj h]
      exact rtZ C X (gb_s z38) dX3_passesNow_38
    · replace h := ineg c7 h
      refine lv_aload_n C.1 C.2.1 dX3_passesNow_10 rfl (lv_at hl 0 rfl) ?_
      refine gfX3 C G X (k := a0) hk_a0 2 (v := .ref (gB E + (a0 + 3))) rfl rfl (by decide) k_317 rfl dX3_passesNow_11 ?_
      refine lv_iload_n C.1 C.2.1 dX3_passesNow_14 rfl (lv_at hl 1 rfl) ?_
      obtain ⟨r15, e15, h⟩ := bnd h
      refine afI X (runV C G X q_X6_get k_498 k_499 k_541 (rcX6 G X (kf_3_3 hk_a0)) (c_X6_get l E (kf_3_3 hk_a0) e15) rfl hl.1 rfl (Nat.le_of_ble_eq_true rfl) ⟨Nat.le_of_ble_eq_true rfl, Nat.le_of_ble_eq_true rfl⟩ ⟨Nat.le_of_ble_eq_true rfl, Nat.le_of_ble_eq_true rfl⟩ dX3_passesNow_15) (fun H locs X => ?_)
      refine lv_if_eq (tgt := 31) C.1 C.2.1 dX3_passesNow_18 (by decide) (fun c18 => ?_) (fun c18 => ?_)
      · replace h := ipos c18 h
        refine lv_iinc (v := (x1 + 1)) (lv' := [(1, .int (x1 + 1)), (0, .ref (gB E + a0))]) C.1 C.2.1 dX3_passesNow_31 hl (k := 1) rfl rfl (by decide) rfl (fun ls hl => ?_)
        refine lv_goto (tgt := 2) C.1 C.2.1 dX3_passesNow_34 (by decide) ?_
        exact ih X hk_a0 (lv_sub hl [1, 0] rfl) h
      · replace h := ineg c18 h
        refine lv_aload_n C.1 C.2.1 dX3_passesNow_21 rfl (lv_at hl 0 rfl) ?_
        refine lv_iload_n C.1 C.2.1 dX3_passesNow_22 rfl (lv_at hl 1 rfl) ?_
        obtain ⟨r23, σ23, e23, h⟩ := bnd2 h
        refine afI (r0 := r23) (σ' := σ23) X (runV C G X q_X3_holds k_569 kp_2 k_567 (rcX3 G X hk_a0) (c_X3_holds l E hk_a0 e23) rfl hl.1 rfl (Nat.le_of_ble_eq_true rfl) ⟨Nat.le_of_ble_eq_true rfl, Nat.le_of_ble_eq_true rfl⟩ ⟨Nat.le_of_ble_eq_true rfl, Nat.le_of_ble_eq_true rfl⟩ dX3_passesNow_23) (fun H locs X => ?_)
        refine lv_if_eq (tgt := 31) C.1 C.2.1 dX3_passesNow_26 (by decide) (fun c26 => ?_) (fun c26 => ?_)
        · replace h := ipos c26 h
          refine lv_iinc (v := (x1 + 1)) (lv' := [(1, .int (x1 + 1)), (0, .ref (gB E + a0))]) C.1 C.2.1 dX3_passesNow_31 hl (k := 1) rfl rfl (by decide) rfl (fun ls hl => ?_)
          refine lv_goto (tgt := 2) C.1 C.2.1 dX3_passesNow_34 (by decide) ?_
          exact ih X hk_a0 (lv_sub hl [1, 0] rfl) h
        · replace h := ineg c26 h
          refine lv_iconst (v := 1) C.1 C.2.1 dX3_passesNow_29 (by decide) ?_
          obtain ⟨u30, z30, h⟩ := bnd h
          rw [← Option.some.inj h]
          exact rtZ C X (gb_s z30) dX3_passesNow_30

set_option maxRecDepth 20000 in
theorem w_X3_passesNow {r : (Int32 × Mem)} {σ : Mem} {a0 : Nat} {ls : Array Slot} {H : Heap} {locs : List Loc} (C : Cx p s m args meth c cX3_passesNow (some .boolean) 2 RX3) (G : Gf E s) (X : Hx E σ s H locs) (hk_a0 : kd a0 = 3) (hl : lv_has ls 2 [(0, .ref (gB E + a0))]) (h : X3_passesNow a0 σ = some r) : W p l e (RM 3) s m args below meth c H locs 0 0 (QI E below args s r.1 r.2) (F0 m 0 ls []) := by
  rw [X3_passesNow] at h
  refine lv_iconst (v := 0) C.1 C.2.1 dX3_passesNow_0 (by decide) ?_
  refine lv_istore_n (lv' := [(1, .int (0 : Int32)), (0, .ref (gB E + a0))]) C.1 C.2.1 dX3_passesNow_1 rfl hl (by decide) rfl (fun ls hl => ?_)
  exact w_X3_passesNow_2 C G FU X hk_a0 (lv_sub hl [1, 0] rfl) h

theorem c_X3_passesNow (l : Launch) (E : GE) {σ : Mem} {a0 : Nat} (hk_a0 : kd a0 = 3) {r : (Int32 × Mem)} (h : X3_passesNow a0 σ = some r) : CtI l E yX3_passesNow cX3_passesNow 2 .boolean 3 [.ref (gB E + a0)] σ r.1 r.2 := by
  refine Met.ofW (cc := cX3_passesNow) (maxL := 2) (ret := (some .boolean)) (by decide) rfl ?_
  intro p e s m args below meth c s₁ B hml hv
  obtain ⟨rfl, G, X⟩ := start hv
  have C := cxof B hml
  have hl := lv_entry [.ref (gB E + a0)] (n := 2) (Nat.le_of_ble_eq_true rfl)
  rw [lg_entry_eq]
  generalize (lg_sl [.ref (gB E + a0)] ++ List.replicate (2 - (lg_sl [.ref (gB E + a0)]).length) Slot.unset).toArray = ls at hl ⊢
  exact w_X3_passesNow C G X hk_a0 hl h

set_option maxRecDepth 20000 in
theorem w_X3_letsLight {r : (Int32 × Mem)} {σ : Mem} {a0 : Nat} {a1 : Nat} {x2 : Int32} {x3 : Int32} {x4 : Int32} {x5 : Int32} {ls : Array Slot} {H : Heap} {locs : List Loc} (C : Cx p s m args meth c cX3_letsLight (some .boolean) 6 RX3) (G : Gf E s) (X : Hx E σ s H locs) (hk_a0 : kd a0 = 3) (hk_a1 : kd a1 = 2) (hl : lv_has ls 6 [(0, .ref (gB E + a0)), (1, .ref (gB E + a1)), (2, .int x2), (3, .int x3), (4, .int x4), (5, .int x5)]) (h : X3_letsLight a0 a1 x2 x3 x4 x5 σ = some r) : W p l e (RM 4) s m args below meth c H locs 0 0 (QI E below args s r.1 r.2) (F0 m 0 ls []) := by
  rw [X3_letsLight] at h
  refine lv_iload C.1 C.2.1 dX3_letsLight_0 (lv_at hl 5 rfl) ?_
  refine lv_if_le (tgt := 36) C.1 C.2.1 dX3_letsLight_2 (by decide) (fun c2 => ?_) (fun c2 => ?_)
  · replace h := ipos c2 h
    refine lv_iconst (v := 0) C.1 C.2.1 dX3_letsLight_36 (by decide) ?_
    obtain ⟨u37, z37, h⟩ := bnd h
    rw [← Option.some.inj h]
    exact rtZ C X (gb_s z37) dX3_letsLight_37
  · replace h := ineg c2 h
    refine lv_aload_n C.1 C.2.1 dX3_letsLight_5 rfl (lv_at hl 1 rfl) ?_
    refine lv_iload_n C.1 C.2.1 dX3_letsLight_6 rfl (lv_at hl 3 rfl) ?_
    obtain ⟨r7, e7, h⟩ := bnd h
    refine afI X (runV C G X q_X7_isBurning k_538 k_539 k_537 (rcX7 G X hk_a1) (c_X7_isBurning l E hk_a1 e7) rfl hl.1 rfl (Nat.le_of_ble_eq_true rfl) ⟨Nat.le_of_ble_eq_true rfl, Nat.le_of_ble_eq_true rfl⟩ ⟨Nat.le_of_ble_eq_true rfl, Nat.le_of_ble_eq_true rfl⟩ dX3_letsLight_7) (fun H locs X => ?_)
    refine lv_if_ne (tgt := 36) C.1 C.2.1 dX3_letsLight_10 (by decide) (fun c10 => ?_) (fun c10 => ?_)
    · replace h := ineg c10 h
      refine lv_iconst (v := 0) C.1 C.2.1 dX3_letsLight_36 (by decide) ?_
      obtain ⟨u37, z37, h⟩ := bnd h
      rw [← Option.some.inj h]
      exact rtZ C X (gb_s z37) dX3_letsLight_37
    · replace h := ipos c10 h
      refine lv_aload_n C.1 C.2.1 dX3_letsLight_13 rfl (lv_at hl 1 rfl) ?_
      refine gfX7 C G X (k := a1) hk_a1 9 (v := .ref (gB E + (a1 + 1))) rfl rfl (by decide) k_233 rfl dX3_letsLight_14 ?_
      refine lv_iload_n C.1 C.2.1 dX3_letsLight_17 rfl (lv_at hl 3 rfl) ?_
      obtain ⟨r18, e18, h⟩ := bnd h
      refine afI X (runV C G X q_X6_get k_498 k_499 k_541 (rcX6 G X (kf_2_1 hk_a1)) (c_X6_get l E (kf_2_1 hk_a1) e18) rfl hl.1 rfl (Nat.le_of_ble_eq_true rfl) ⟨Nat.le_of_ble_eq_true rfl, Nat.le_of_ble_eq_true rfl⟩ ⟨Nat.le_of_ble_eq_true rfl, Nat.le_of_ble_eq_true rfl⟩ dX3_letsLight_18) (fun H locs X => ?_)
      refine lv_if_le (tgt := 36) C.1 C.2.1 dX3_letsLight_21 (by decide) (fun c21 => ?_) (fun c21 => ?_)
      · replace h := ipos c21 h
        refine lv_iconst (v := 0) C.1 C.2.1 dX3_letsLight_36 (by decide) ?_
        obtain ⟨u37, z37, h⟩ := bnd h
        rw [← Option.some.inj h]
        exact rtZ C X (gb_s z37) dX3_letsLight_37
      · replace h := ineg c21 h
        refine lv_aload_n C.1 C.2.1 dX3_letsLight_24 rfl (lv_at hl 1 rfl) ?_
        refine gfX7 C G X (k := a1) hk_a1 10 (v := .ref (gB E + (a1 + 3))) rfl rfl (by decide) k_239 rfl dX3_letsLight_25 ?_
        refine lv_iload_n C.1 C.2.1 dX3_letsLight_28 rfl (lv_at hl 3 rfl) ?_
        obtain ⟨r29, e29, h⟩ := bnd h
        refine afI X (runV C G X q_X6_get k_498 k_499 k_541 (rcX6 G X (kf_2_3 hk_a1)) (c_X6_get l E (kf_2_3 hk_a1) e29) rfl hl.1 rfl (Nat.le_of_ble_eq_true rfl) ⟨Nat.le_of_ble_eq_true rfl, Nat.le_of_ble_eq_true rfl⟩ ⟨Nat.le_of_ble_eq_true rfl, Nat.le_of_ble_eq_true rfl⟩ dX3_letsLight_29) (fun H locs X => ?_)
        refine lv_iload_n C.1 C.2.1 dX3_letsLight_32 rfl (lv_at hl 2 rfl) ?_
        refine lv_icmp_ne (tgt := 38) C.1 C.2.1 dX3_letsLight_33 (by decide) (fun c33 => ?_) (fun c33 => ?_)
        · replace h := ineg c33 h
          refine lv_aload_n C.1 C.2.1 dX3_letsLight_38 rfl (lv_at hl 0 rfl) ?_
          refine lv_aload_n C.1 C.2.1 dX3_letsLight_39 rfl (lv_at hl 1 rfl) ?_
          refine lv_iload_n C.1 C.2.1 dX3_letsLight_40 rfl (lv_at hl 2 rfl) ?_
          refine lv_iload_n C.1 C.2.1 dX3_letsLight_41 rfl (lv_at hl 3 rfl) ?_
          refine lv_iload C.1 C.2.1 dX3_letsLight_42 (lv_at hl 4 rfl) ?_
          refine lv_iload C.1 C.2.1 dX3_letsLight_44 (lv_at hl 5 rfl) ?_
          obtain ⟨σ46, e46, h⟩ := bnd h
          refine afV X (runV C G X q_X3_look k_543 k_544 k_542 (rcX3 G X hk_a0) (c_X3_look l E hk_a0 hk_a1 e46) rfl hl.1 rfl (Nat.le_of_ble_eq_true rfl) ⟨Nat.le_of_ble_eq_true rfl, Nat.le_of_ble_eq_true rfl⟩ ⟨Nat.le_of_ble_eq_true rfl, Nat.le_of_ble_eq_true rfl⟩ dX3_letsLight_46) (fun H locs X => ?_)
          refine lv_aload_n C.1 C.2.1 dX3_letsLight_49 rfl (lv_at hl 0 rfl) ?_
          obtain ⟨r50, σ50, e50, h⟩ := bnd2 h
          refine afI (r0 := r50) (σ' := σ50) X (runV C G X q_X3_willNow k_564 k_565 k_563 (rcX3 G X hk_a0) (c_X3_willNow l E hk_a0 e50) rfl hl.1 rfl (Nat.le_of_ble_eq_true rfl) ⟨Nat.le_of_ble_eq_true rfl, Nat.le_of_ble_eq_true rfl⟩ ⟨Nat.le_of_ble_eq_true rfl, Nat.le_of_ble_eq_true rfl⟩ dX3_letsLight_50) (fun H locs X => ?_)
          refine lv_iconst (v := 5) C.1 C.2.1 dX3_letsLight_53 (by decide) ?_
          refine lv_icmp_lt (tgt := 68) C.1 C.2.1 dX3_letsLight_54 (by decide) (fun c54 => ?_) (fun c54 => ?_)
          · replace h := ipos c54 h
            refine lv_iconst (v := 0) C.1 C.2.1 dX3_letsLight_68 (by decide) ?_
            obtain ⟨u69, z69, h⟩ := bnd h
            rw [← Option.some.inj h]
            exact rtZ C X (gb_s z69) dX3_letsLight_69
          · replace h := ineg c54 h
            refine lv_aload_n C.1 C.2.1 dX3_letsLight_57 rfl (lv_at hl 0 rfl) ?_
            obtain ⟨r58, σ58, e58, h⟩ := bnd2 h
            refine afI (r0 := r58) (σ' := σ58) X (runV C G X q_X3_passesNow k_575 k_576 k_574 (rcX3 G X hk_a0) (c_X3_passesNow l E hk_a0 e58) rfl hl.1 rfl (Nat.le_of_ble_eq_true rfl) ⟨Nat.le_of_ble_eq_true rfl, Nat.le_of_ble_eq_true rfl⟩ ⟨Nat.le_of_ble_eq_true rfl, Nat.le_of_ble_eq_true rfl⟩ dX3_letsLight_58) (fun H locs X => ?_)
            refine lv_if_ne (tgt := 68) C.1 C.2.1 dX3_letsLight_61 (by decide) (fun c61 => ?_) (fun c61 => ?_)
            · replace h := ineg c61 h
              refine lv_iconst (v := 0) C.1 C.2.1 dX3_letsLight_68 (by decide) ?_
              obtain ⟨u69, z69, h⟩ := bnd h
              rw [← Option.some.inj h]
              exact rtZ C X (gb_s z69) dX3_letsLight_69
            · replace h := ipos c61 h
              refine lv_iconst (v := 1) C.1 C.2.1 dX3_letsLight_64 (by decide) ?_
              refine lv_goto (tgt := 69) C.1 C.2.1 dX3_letsLight_65 (by decide) ?_
              obtain ⟨u69, z69, h⟩ := bnd h
              rw [← Option.some.inj h]
              exact rtZ C X (gb_s z69) dX3_letsLight_69
        · replace h := ipos c33 h
          refine lv_iconst (v := 0) C.1 C.2.1 dX3_letsLight_36 (by decide) ?_
          obtain ⟨u37, z37, h⟩ := bnd h
          rw [← Option.some.inj h]
          exact rtZ C X (gb_s z37) dX3_letsLight_37

theorem c_X3_letsLight (l : Launch) (E : GE) {σ : Mem} {a0 : Nat} {a1 : Nat} {x2 : Int32} {x3 : Int32} {x4 : Int32} {x5 : Int32} (hk_a0 : kd a0 = 3) (hk_a1 : kd a1 = 2) {r : (Int32 × Mem)} (h : X3_letsLight a0 a1 x2 x3 x4 x5 σ = some r) : CtI l E yX3_letsLight cX3_letsLight 6 .boolean 4 [.ref (gB E + a0), .ref (gB E + a1), .int x2, .int x3, .int x4, .int x5] σ r.1 r.2 := by
  refine Met.ofW (cc := cX3_letsLight) (maxL := 6) (ret := (some .boolean)) (by decide) rfl ?_
  intro p e s m args below meth c s₁ B hml hv
  obtain ⟨rfl, G, X⟩ := start hv
  have C := cxof B hml
  have hl := lv_entry [.ref (gB E + a0), .ref (gB E + a1), .int x2, .int x3, .int x4, .int x5] (n := 6) (Nat.le_of_ble_eq_true rfl)
  rw [lg_entry_eq]
  generalize (lg_sl [.ref (gB E + a0), .ref (gB E + a1), .int x2, .int x3, .int x4, .int x5] ++ List.replicate (6 - (lg_sl [.ref (gB E + a0), .ref (gB E + a1), .int x2, .int x3, .int x4, .int x5]).length) Slot.unset).toArray = ls at hl ⊢
  exact w_X3_letsLight C G X hk_a0 hk_a1 hl h

set_option maxRecDepth 20000 in
theorem w_X1_canLight_6 {r : (Int32 × Mem)} (C : Cx p s m args meth c cX1_canLight (some .int) 7 RX1) (G : Gf E s) : ∀ (f : Nat) {a1 : Nat} {a2 : Nat} {x3 : Int32} {x4 : Int32} {x5 : Int32} {σ : Mem} {ls : Array Slot} {H : Heap} {locs : List Loc}, Hx E σ s H locs → kd a1 = 2 → kd a2 = 3 → lv_has ls 7 [(1, .ref (gB E + a1)), (2, .ref (gB E + a2)), (3, .int x3), (4, .int x4), (5, .int x5)] → X1_canLight_6 f a1 a2 x3 x4 x5 σ = some r → W p l e (RM 5) s m args below meth c H locs 0 0 (QI E below args s r.1 r.2) (F0 m 6 ls []) := by
  intro f
  induction f with
  | zero =>
    intro a1 a2 x3 x4 x5 σ ls H locs X hk_a1 hk_a2 hl h
    rw [X1_canLight_6] at h
    cases h
  | succ f ih =>
    intro a1 a2 x3 x4 x5 σ ls H locs X hk_a1 hk_a2 hl h
    rw [X1_canLight_6] at h
    refine lv_iload C.1 C.2.1 dX1_canLight_6 (lv_at hl 4 rfl) ?_
    refine lv_aload_n C.1 C.2.1 dX1_canLight_8 rfl (lv_at hl 0 rfl) ?_
    refine gfX7 C G X (k := a1) hk_a1 1 (v := .int (σ a1 1)) rfl rfl (by decide) k_204 rfl dX1_canLight_9 ?_
    refine lv_icmp_ge (tgt := 62) C.1 C.2.1 dX1_canLight_12 (by decide) (fun c12 => ?_) (fun c12 => ?_)
    · replace h := ipos c12 h
      refine lv_iload C.1 C.2.1 dX1_canLight_62 (lv_at hl 3 rfl) ?_
      rw [← Option.some.inj h]
      exact rtI C X dX1_canLight_64
    · replace h := ineg c12 h
      refine lv_aload_n C.1 C.2.1 dX1_canLight_15 rfl (lv_at hl 0 rfl) ?_
      refine lv_iload C.1 C.2.1 dX1_canLight_16 (lv_at hl 4 rfl) ?_
      refine lv_iload_n C.1 C.2.1 dX1_canLight_18 rfl (lv_at hl 2 rfl) ?_
      obtain ⟨r19, e19, h⟩ := bnd h
      refine afI X (runV C G X q_X7_likesFor k_526 k_527 k_626 (rcX7 G X hk_a1) (c_X7_likesFor l E hk_a1 e19) rfl hl.1 rfl (Nat.le_of_ble_eq_true rfl) ⟨Nat.le_of_ble_eq_true rfl, Nat.le_of_ble_eq_true rfl⟩ ⟨Nat.le_of_ble_eq_true rfl, Nat.le_of_ble_eq_true rfl⟩ dX1_canLight_19) (fun H locs X => ?_)
      refine lv_istore (lv' := [(6, .int r19), (1, .ref (gB E + a1)), (2, .ref (gB E + a2)), (3, .int x3), (4, .int x4), (5, .int x5)]) C.1 C.2.1 dX1_canLight_22 hl (by decide) rfl (fun ls hl => ?_)
      refine lv_aload_n C.1 C.2.1 dX1_canLight_24 rfl (lv_at hl 2 rfl) ?_
      refine lv_aload_n C.1 C.2.1 dX1_canLight_25 rfl (lv_at hl 1 rfl) ?_
      refine lv_iload C.1 C.2.1 dX1_canLight_26 (lv_at hl 5 rfl) ?_
      refine lv_iload_n C.1 C.2.1 dX1_canLight_28 rfl (lv_at hl 3 rfl) ?_
      refine lv_iload C.1 C.2.1 dX1_canLight_29 (lv_at hl 0 rfl) ?_
      refine lv_aload_n C.1 C.2.1 dX1_canLight_31 rfl (lv_at hl 1 rfl) ?_
      refine gfX7 C G X (k := a1) hk_a1 14 (v := .ref (gB E + (a1 + 11))) rfl rfl (by decide) k_252 rfl dX1_canLight_32 ?_
      refine lv_iload C.1 C.2.1 dX1_canLight_35 (lv_at hl 5 rfl) ?_
      obtain ⟨r37, e37, h⟩ := bnd h
      refine afI X (runV C G X q_X6_get k_498 k_499 k_627 (rcX6 G X (kf_2_11 hk_a1)) (c_X6_get l E (kf_2_11 hk_a1) e37) rfl hl.1 rfl (Nat.le_of_ble_eq_true rfl) ⟨Nat.le_of_ble_eq_true rfl, Nat.le_of_ble_eq_true rfl⟩ ⟨Nat.le_of_ble_eq_true rfl, Nat.le_of_ble_eq_true rfl⟩ dX1_canLight_37) (fun H locs X => ?_)
      obtain ⟨r40, σ40, e40, h⟩ := bnd2 h
      refine afI (r0 := r40) (σ' := σ40) X (runV C G X q_X3_letsLight k_534 k_535 k_628 (rcX3 G X hk_a2) (c_X3_letsLight l E hk_a2 hk_a1 e40) rfl hl.1 rfl (Nat.le_of_ble_eq_true rfl) ⟨Nat.le_of_ble_eq_true rfl, Nat.le_of_ble_eq_true rfl⟩ ⟨Nat.le_of_ble_eq_true rfl, Nat.le_of_ble_eq_true rfl⟩ dX1_canLight_40) (fun H locs X => ?_)
      refine lv_if_eq (tgt := 56) C.1 C.2.1 dX1_canLight_43 (by decide) (fun c43 => ?_) (fun c43 => ?_)
      · replace h := ipos c43 h
        refine lv_iinc (v := (x5 + 1)) (lv' := [(5, .int (x5 + 1)), (6, .int r19), (1, .ref (gB E + a1)), (2, .ref (gB E + a2)), (3, .int x3), (4, .int x4)]) C.1 C.2.1 dX1_canLight_56 hl (k := 5) rfl rfl (by decide) rfl (fun ls hl => ?_)
        refine lv_goto (tgt := 6) C.1 C.2.1 dX1_canLight_59 (by decide) ?_
        exact ih X hk_a1 hk_a2 (lv_sub hl [2, 3, 4, 5, 0] rfl) h
      · replace h := ineg c43 h
        refine lv_iload C.1 C.2.1 dX1_canLight_46 (lv_at hl 4 rfl) ?_
        refine lv_iload C.1 C.2.1 dX1_canLight_48 (lv_at hl 5 rfl) ?_
        obtain ⟨r50, e50, h⟩ := bnd h
        refine afI X (runN C G X q_X11_bit k_506 nw_11 (c_X11_bit l E e50) rfl hl.1 rfl (Nat.le_of_ble_eq_true rfl) ⟨Nat.le_of_ble_eq_true rfl, Nat.le_of_ble_eq_true rfl⟩ ⟨Nat.le_of_ble_eq_true rfl, Nat.le_of_ble_eq_true rfl⟩ dX1_canLight_50) (fun H locs X => ?_)
        refine lv_ior C.1 C.2.1 dX1_canLight_53 ?_
        refine lv_istore (lv' := [(4, .int (x4 ||| r50)), (6, .int r19), (1, .ref (gB E + a1)), (2, .ref (gB E + a2)), (3, .int x3), (5, .int x5)]) C.1 C.2.1 dX1_canLight_54 hl (by decide) rfl (fun ls hl => ?_)
        refine lv_iinc (v := (x5 + 1)) (lv' := [(5, .int (x5 + 1)), (4, .int (x4 ||| r50)), (6, .int r19), (1, .ref (gB E + a1)), (2, .ref (gB E + a2)), (3, .int x3)]) C.1 C.2.1 dX1_canLight_56 hl (k := 5) rfl rfl (by decide) rfl (fun ls hl => ?_)
        refine lv_goto (tgt := 6) C.1 C.2.1 dX1_canLight_59 (by decide) ?_
        exact ih X hk_a1 hk_a2 (lv_sub hl [3, 4, 5, 1, 0] rfl) h

set_option maxRecDepth 20000 in
theorem w_X1_canLight {r : (Int32 × Mem)} {σ : Mem} {a1 : Nat} {a2 : Nat} {x3 : Int32} {ls : Array Slot} {H : Heap} {locs : List Loc} (C : Cx p s m args meth c cX1_canLight (some .int) 7 RX1) (G : Gf E s) (X : Hx E σ s H locs) (hk_a1 : kd a1 = 2) (hk_a2 : kd a2 = 3) (hl : lv_has ls 7 [(0, .ref (gB E + 396)), (1, .ref (gB E + a1)), (2, .ref (gB E + a2)), (3, .int x3)]) (h : X1_canLight a1 a2 x3 σ = some r) : W p l e (RM 5) s m args below meth c H locs 0 0 (QI E below args s r.1 r.2) (F0 m 0 ls []) := by
  rw [X1_canLight] at h
  refine lv_iconst (v := 0) C.1 C.2.1 dX1_canLight_0 (by decide) ?_
  refine lv_istore (lv' := [(4, .int (0 : Int32)), (0, .ref (gB E + 396)), (1, .ref (gB E + a1)), (2, .ref (gB E + a2)), (3, .int x3)]) C.1 C.2.1 dX1_canLight_1 hl (by decide) rfl (fun ls hl => ?_)
  refine lv_iconst (v := 0) C.1 C.2.1 dX1_canLight_3 (by decide) ?_
  refine lv_istore (lv' := [(5, .int (0 : Int32)), (4, .int (0 : Int32)), (0, .ref (gB E + 396)), (1, .ref (gB E + a1)), (2, .ref (gB E + a2)), (3, .int x3)]) C.1 C.2.1 dX1_canLight_4 hl (by decide) rfl (fun ls hl => ?_)
  exact w_X1_canLight_6 C G FU X hk_a1 hk_a2 (lv_sub hl [3, 4, 5, 1, 0] rfl) h

theorem c_X1_canLight (l : Launch) (E : GE) {σ : Mem} {a1 : Nat} {a2 : Nat} {x3 : Int32} (hk_a1 : kd a1 = 2) (hk_a2 : kd a2 = 3) {r : (Int32 × Mem)} (h : X1_canLight a1 a2 x3 σ = some r) : CtI l E yX1_canLight cX1_canLight 7 .int 5 [.ref (gB E + 396), .ref (gB E + a1), .ref (gB E + a2), .int x3] σ r.1 r.2 := by
  refine Met.ofW (cc := cX1_canLight) (maxL := 7) (ret := (some .int)) (by decide) rfl ?_
  intro p e s m args below meth c s₁ B hml hv
  obtain ⟨rfl, G, X⟩ := start hv
  have C := cxof B hml
  have hl := lv_entry [.ref (gB E + 396), .ref (gB E + a1), .ref (gB E + a2), .int x3] (n := 7) (Nat.le_of_ble_eq_true rfl)
  rw [lg_entry_eq]
  generalize (lg_sl [.ref (gB E + 396), .ref (gB E + a1), .ref (gB E + a2), .int x3] ++ List.replicate (7 - (lg_sl [.ref (gB E + 396), .ref (gB E + a1), .ref (gB E + a2), .int x3]).length) Slot.unset).toArray = ls at hl ⊢
  exact w_X1_canLight C G X hk_a1 hk_a2 hl h

set_option maxRecDepth 20000 in
theorem w_X7_draw {r : (Int32 × Mem)} {σ : Mem} {a0 : Nat} {ls : Array Slot} {H : Heap} {locs : List Loc} (C : Cx p s m args meth c cX7_draw (some .int) 1 RX7) (G : Gf E s) (X : Hx E σ s H locs) (hk_a0 : kd a0 = 2) (hl : lv_has ls 1 [(0, .ref (gB E + a0))]) (h : X7_draw a0 σ = some r) : W p l e (RM 1) s m args below meth c H locs 0 0 (QI E below args s r.1 r.2) (F0 m 0 ls []) := by
  rw [X7_draw] at h
  refine lv_aload_n C.1 C.2.1 dX7_draw_0 rfl (lv_at hl 0 rfl) ?_
  refine lv_aload_n C.1 C.2.1 dX7_draw_1 rfl (lv_at hl 0 rfl) ?_
  refine gfX7 C G X (k := a0) hk_a0 7 (v := .int (σ a0 7)) rfl rfl (by decide) k_226 rfl dX7_draw_2 ?_
  refine lv_ldc C.1 C.2.1 C.hown (C.ts _ k_492) dX7_draw_5 ?_
  refine lv_imul C.1 C.2.1 dX7_draw_7 ?_
  refine lv_sipush (v := 12345) C.1 C.2.1 dX7_draw_8 (by decide) ?_
  refine lv_iadd C.1 C.2.1 dX7_draw_11 ?_
  obtain ⟨σ12, e12, h⟩ := bnd h
  refine pfX7 C G X (k := a0) hk_a0 7 (x := (((σ a0 7) * (1103515245 : Int32)) + (12345 : Int32))) (ty := .int) rfl rfl (Nat.le_of_ble_eq_true rfl) (by decide) k_226 rfl rfl (by decide +kernel) rfl rfl dX7_draw_12 (fun H locs X => ?_)
  replace X := pu_x e12 X
  refine lv_aload_n C.1 C.2.1 dX7_draw_15 rfl (lv_at hl 0 rfl) ?_
  refine gfX7 C G X (k := a0) hk_a0 7 (v := .int (σ12 a0 7)) rfl rfl (by decide) k_226 rfl dX7_draw_16 ?_
  refine lv_bipush (v := 16) C.1 C.2.1 dX7_draw_19 (by decide) ?_
  refine lv_ishr C.1 C.2.1 dX7_draw_21 ?_
  refine lv_sipush (v := 32767) C.1 C.2.1 dX7_draw_22 (by decide) ?_
  refine lv_iand C.1 C.2.1 dX7_draw_25 ?_
  rw [← Option.some.inj h]
  exact rtI C X dX7_draw_26

theorem c_X7_draw (l : Launch) (E : GE) {σ : Mem} {a0 : Nat} (hk_a0 : kd a0 = 2) {r : (Int32 × Mem)} (h : X7_draw a0 σ = some r) : CtI l E yX7_draw cX7_draw 1 .int 1 [.ref (gB E + a0)] σ r.1 r.2 := by
  refine Met.ofW (cc := cX7_draw) (maxL := 1) (ret := (some .int)) (by decide) rfl ?_
  intro p e s m args below meth c s₁ B hml hv
  obtain ⟨rfl, G, X⟩ := start hv
  have C := cxof B hml
  have hl := lv_entry [.ref (gB E + a0)] (n := 1) (Nat.le_of_ble_eq_true rfl)
  rw [lg_entry_eq]
  generalize (lg_sl [.ref (gB E + a0)] ++ List.replicate (1 - (lg_sl [.ref (gB E + a0)]).length) Slot.unset).toArray = ls at hl ⊢
  exact w_X7_draw C G X hk_a0 hl h

set_option maxRecDepth 20000 in
theorem w_X7_around_4 {r : Int32} {σ : Mem} (C : Cx p s m args meth c cX7_around (some .int) 4 RX7) (G : Gf E s) : ∀ (f : Nat) {a0 : Nat} {x1 : Int32} {x2 : Int32} {x3 : Int32} {ls : Array Slot} {H : Heap} {locs : List Loc}, Hx E σ s H locs → kd a0 = 2 → lv_has ls 4 [(0, .ref (gB E + a0)), (1, .int x1), (2, .int x2), (3, .int x3)] → X7_around_4 σ f a0 x1 x2 x3 = some r → W p l e (RM 2) s m args below meth c H locs 0 0 (QI E below args s r σ) (F0 m 4 ls []) := by
  intro f
  induction f with
  | zero =>
    intro a0 x1 x2 x3 ls H locs X hk_a0 hl h
    rw [X7_around_4] at h
    cases h
  | succ f ih =>
    intro a0 x1 x2 x3 ls H locs X hk_a0 hl h
    rw [X7_around_4] at h
    refine lv_iload_n C.1 C.2.1 dX7_around_4 rfl (lv_at hl 3 rfl) ?_
    refine lv_aload_n C.1 C.2.1 dX7_around_5 rfl (lv_at hl 0 rfl) ?_
    refine gfX7 C G X (k := a0) hk_a0 0 (v := .int (σ a0 0)) rfl rfl (by decide) k_198 rfl dX7_around_6 ?_
    refine lv_icmp_ge (tgt := 37) C.1 C.2.1 dX7_around_9 (by decide) (fun c9 => ?_) (fun c9 => ?_)
    · replace h := ipos c9 h
      refine lv_iload_n C.1 C.2.1 dX7_around_37 rfl (lv_at hl 2 rfl) ?_
      rw [← Option.some.inj h]
      exact rtI C X dX7_around_38
    · replace h := ineg c9 h
      refine lv_iload_n C.1 C.2.1 dX7_around_12 rfl (lv_at hl 1 rfl) ?_
      refine lv_iload_n C.1 C.2.1 dX7_around_13 rfl (lv_at hl 3 rfl) ?_
      obtain ⟨r14, e14, h⟩ := bnd h
      refine afI X (runN C G X q_X11_hasBit k_509 nw_9 (c_X11_hasBit l E e14) rfl hl.1 rfl (Nat.le_of_ble_eq_true rfl) ⟨Nat.le_of_ble_eq_true rfl, Nat.le_of_ble_eq_true rfl⟩ ⟨Nat.le_of_ble_eq_true rfl, Nat.le_of_ble_eq_true rfl⟩ dX7_around_14) (fun H locs X => ?_)
      refine lv_if_eq (tgt := 31) C.1 C.2.1 dX7_around_17 (by decide) (fun c17 => ?_) (fun c17 => ?_)
      · replace h := ipos c17 h
        refine lv_iinc (v := (x3 + 1)) (lv' := [(3, .int (x3 + 1)), (0, .ref (gB E + a0)), (1, .int x1), (2, .int x2)]) C.1 C.2.1 dX7_around_31 hl (k := 3) rfl rfl (by decide) rfl (fun ls hl => ?_)
        refine lv_goto (tgt := 4) C.1 C.2.1 dX7_around_34 (by decide) ?_
        exact ih X hk_a0 (lv_sub hl [1, 2, 3, 0] rfl) h
      · replace h := ineg c17 h
        refine lv_iload_n C.1 C.2.1 dX7_around_20 rfl (lv_at hl 2 rfl) ?_
        refine lv_aload_n C.1 C.2.1 dX7_around_21 rfl (lv_at hl 0 rfl) ?_
        refine gfX7 C G X (k := a0) hk_a0 12 (v := .ref (gB E + (a0 + 7))) rfl rfl (by decide) k_245 rfl dX7_around_22 ?_
        refine lv_iload_n C.1 C.2.1 dX7_around_25 rfl (lv_at hl 3 rfl) ?_
        obtain ⟨r26, e26, h⟩ := bnd h
        refine afI X (runV C G X q_X6_get k_498 k_499 k_515 (rcX6 G X (kf_2_7 hk_a0)) (c_X6_get l E (kf_2_7 hk_a0) e26) rfl hl.1 rfl (Nat.le_of_ble_eq_true rfl) ⟨Nat.le_of_ble_eq_true rfl, Nat.le_of_ble_eq_true rfl⟩ ⟨Nat.le_of_ble_eq_true rfl, Nat.le_of_ble_eq_true rfl⟩ dX7_around_26) (fun H locs X => ?_)
        refine lv_ior C.1 C.2.1 dX7_around_29 ?_
        refine lv_istore_n (lv' := [(2, .int (x2 ||| r26)), (0, .ref (gB E + a0)), (1, .int x1), (3, .int x3)]) C.1 C.2.1 dX7_around_30 rfl hl (by decide) rfl (fun ls hl => ?_)
        refine lv_iinc (v := (x3 + 1)) (lv' := [(3, .int (x3 + 1)), (2, .int (x2 ||| r26)), (0, .ref (gB E + a0)), (1, .int x1)]) C.1 C.2.1 dX7_around_31 hl (k := 3) rfl rfl (by decide) rfl (fun ls hl => ?_)
        refine lv_goto (tgt := 4) C.1 C.2.1 dX7_around_34 (by decide) ?_
        exact ih X hk_a0 (lv_sub hl [2, 3, 1, 0] rfl) h

set_option maxRecDepth 20000 in
theorem w_X7_around {r : Int32} {σ : Mem} {a0 : Nat} {x1 : Int32} {ls : Array Slot} {H : Heap} {locs : List Loc} (C : Cx p s m args meth c cX7_around (some .int) 4 RX7) (G : Gf E s) (X : Hx E σ s H locs) (hk_a0 : kd a0 = 2) (hl : lv_has ls 4 [(0, .ref (gB E + a0)), (1, .int x1)]) (h : X7_around σ a0 x1 = some r) : W p l e (RM 2) s m args below meth c H locs 0 0 (QI E below args s r σ) (F0 m 0 ls []) := by
  rw [X7_around] at h
  refine lv_iconst (v := 0) C.1 C.2.1 dX7_around_0 (by decide) ?_
  refine lv_istore_n (lv' := [(2, .int (0 : Int32)), (0, .ref (gB E + a0)), (1, .int x1)]) C.1 C.2.1 dX7_around_1 rfl hl (by decide) rfl (fun ls hl => ?_)
  refine lv_iconst (v := 0) C.1 C.2.1 dX7_around_2 (by decide) ?_
  refine lv_istore_n (lv' := [(3, .int (0 : Int32)), (2, .int (0 : Int32)), (0, .ref (gB E + a0)), (1, .int x1)]) C.1 C.2.1 dX7_around_3 rfl hl (by decide) rfl (fun ls hl => ?_)
  exact w_X7_around_4 C G FU X hk_a0 (lv_sub hl [2, 3, 1, 0] rfl) h

theorem c_X7_around (l : Launch) (E : GE) {σ : Mem} {a0 : Nat} {x1 : Int32} (hk_a0 : kd a0 = 2) {r : Int32} (h : X7_around σ a0 x1 = some r) : CtI l E yX7_around cX7_around 4 .int 2 [.ref (gB E + a0), .int x1] σ r σ := by
  refine Met.ofW (cc := cX7_around) (maxL := 4) (ret := (some .int)) (by decide) rfl ?_
  intro p e s m args below meth c s₁ B hml hv
  obtain ⟨rfl, G, X⟩ := start hv
  have C := cxof B hml
  have hl := lv_entry [.ref (gB E + a0), .int x1] (n := 4) (Nat.le_of_ble_eq_true rfl)
  rw [lg_entry_eq]
  generalize (lg_sl [.ref (gB E + a0), .int x1] ++ List.replicate (4 - (lg_sl [.ref (gB E + a0), .int x1]).length) Slot.unset).toArray = ls at hl ⊢
  exact w_X7_around C G X hk_a0 hl h

set_option maxRecDepth 20000 in
theorem w_X11_lowest_2 {r : Int32} {σ : Mem} (C : Cx p s m args meth c cX11_lowest (some .int) 2 RX11) (G : Gf E s) : ∀ (f : Nat) {x0 : Int32} {x1 : Int32} {ls : Array Slot} {H : Heap} {locs : List Loc}, Hx E σ s H locs → lv_has ls 2 [(0, .int x0), (1, .int x1)] → X11_lowest_2 σ f x0 x1 = some r → W p l e (RM 2) s m args below meth c H locs 0 0 (QI E below args s r σ) (F0 m 2 ls []) := by
  intro f
  induction f with
  | zero =>
    intro x0 x1 ls H locs X hl h
    rw [X11_lowest_2] at h
    cases h
  | succ f ih =>
    intro x0 x1 ls H locs X hl h
    rw [X11_lowest_2] at h
    refine lv_iload_n C.1 C.2.1 dX11_lowest_2 rfl (lv_at hl 1 rfl) ?_
    refine lv_bipush (v := 9) C.1 C.2.1 dX11_lowest_3 (by decide) ?_
    refine lv_icmp_ge (tgt := 24) C.1 C.2.1 dX11_lowest_5 (by decide) (fun c5 => ?_) (fun c5 => ?_)
    · replace h := ipos c5 h
      refine lv_iconst (v := -1) C.1 C.2.1 dX11_lowest_24 (by decide) ?_
      rw [← Option.some.inj h]
      exact rtI C X dX11_lowest_25
    · replace h := ineg c5 h
      refine lv_iload_n C.1 C.2.1 dX11_lowest_8 rfl (lv_at hl 0 rfl) ?_
      refine lv_iload_n C.1 C.2.1 dX11_lowest_9 rfl (lv_at hl 1 rfl) ?_
      obtain ⟨r10, e10, h⟩ := bnd h
      refine afI X (runS C G X q_X11_hasBit k_509 k_519 (c_X11_hasBit l E e10) rfl hl.1 rfl (Nat.le_of_ble_eq_true rfl) ⟨Nat.le_of_ble_eq_true rfl, Nat.le_of_ble_eq_true rfl⟩ ⟨Nat.le_of_ble_eq_true rfl, Nat.le_of_ble_eq_true rfl⟩ dX11_lowest_10) (fun H locs X => ?_)
      refine lv_if_eq (tgt := 18) C.1 C.2.1 dX11_lowest_13 (by decide) (fun c13 => ?_) (fun c13 => ?_)
      · replace h := ipos c13 h
        refine lv_iinc (v := (x1 + 1)) (lv' := [(1, .int (x1 + 1)), (0, .int x0)]) C.1 C.2.1 dX11_lowest_18 hl (k := 1) rfl rfl (by decide) rfl (fun ls hl => ?_)
        refine lv_goto (tgt := 2) C.1 C.2.1 dX11_lowest_21 (by decide) ?_
        exact ih X (lv_sub hl [1, 0] rfl) h
      · replace h := ineg c13 h
        refine lv_iload_n C.1 C.2.1 dX11_lowest_16 rfl (lv_at hl 1 rfl) ?_
        rw [← Option.some.inj h]
        exact rtI C X dX11_lowest_17

set_option maxRecDepth 20000 in
theorem w_X11_lowest {r : Int32} {σ : Mem} {x0 : Int32} {ls : Array Slot} {H : Heap} {locs : List Loc} (C : Cx p s m args meth c cX11_lowest (some .int) 2 RX11) (G : Gf E s) (X : Hx E σ s H locs) (hl : lv_has ls 2 [(0, .int x0)]) (h : X11_lowest σ x0 = some r) : W p l e (RM 2) s m args below meth c H locs 0 0 (QI E below args s r σ) (F0 m 0 ls []) := by
  rw [X11_lowest] at h
  refine lv_iconst (v := 0) C.1 C.2.1 dX11_lowest_0 (by decide) ?_
  refine lv_istore_n (lv' := [(1, .int (0 : Int32)), (0, .int x0)]) C.1 C.2.1 dX11_lowest_1 rfl hl (by decide) rfl (fun ls hl => ?_)
  exact w_X11_lowest_2 C G FU X (lv_sub hl [1, 0] rfl) h

theorem c_X11_lowest (l : Launch) (E : GE) {σ : Mem} {x0 : Int32} {r : Int32} (h : X11_lowest σ x0 = some r) : CtI l E yX11_lowest cX11_lowest 2 .int 2 [.int x0] σ r σ := by
  refine Met.ofW (cc := cX11_lowest) (maxL := 2) (ret := (some .int)) (by decide) rfl ?_
  intro p e s m args below meth c s₁ B hml hv
  obtain ⟨rfl, G, X⟩ := start hv
  have C := cxof B hml
  have hl := lv_entry [.int x0] (n := 2) (Nat.le_of_ble_eq_true rfl)
  rw [lg_entry_eq]
  generalize (lg_sl [.int x0] ++ List.replicate (2 - (lg_sl [.int x0]).length) Slot.unset).toArray = ls at hl ⊢
  exact w_X11_lowest C G X hl h

set_option maxRecDepth 20000 in
theorem w_X7_stepTo_18 {r : Int32} {σ : Mem} (C : Cx p s m args meth c cX7_stepTo (some .int) 6 RX7) (G : Gf E s) : ∀ (f : Nat) {a0 : Nat} {x1 : Int32} {x3 : Int32} {x4 : Int32} {ls : Array Slot} {H : Heap} {locs : List Loc}, Hx E σ s H locs → kd a0 = 2 → lv_has ls 6 [(0, .ref (gB E + a0)), (1, .int x1), (3, .int x3), (4, .int x4)] → X7_stepTo_18 σ f a0 x1 x3 x4 = some r → W p l e (RM 3) s m args below meth c H locs 0 0 (QI E below args s r σ) (F0 m 18 ls []) := by
  intro f
  induction f with
  | zero =>
    intro a0 x1 x3 x4 ls H locs X hk_a0 hl h
    rw [X7_stepTo_18] at h
    cases h
  | succ f ih =>
    intro a0 x1 x3 x4 ls H locs X hk_a0 hl h
    rw [X7_stepTo_18] at h
    refine lv_iload C.1 C.2.1 dX7_stepTo_18 (lv_at hl 3 rfl) ?_
    refine lv_bipush (v := 9) C.1 C.2.1 dX7_stepTo_20 (by decide) ?_
    refine lv_icmp_ge (tgt := 66) C.1 C.2.1 dX7_stepTo_22 (by decide) (fun c22 => ?_) (fun c22 => ?_)
    · replace h := ipos c22 h
      refine lv_iload_n C.1 C.2.1 dX7_stepTo_66 rfl (lv_at hl 1 rfl) ?_
      rw [← Option.some.inj h]
      exact rtI C X dX7_stepTo_67
    · replace h := ineg c22 h
      refine lv_iload_n C.1 C.2.1 dX7_stepTo_25 rfl (lv_at hl 2 rfl) ?_
      refine lv_aload_n C.1 C.2.1 dX7_stepTo_26 rfl (lv_at hl 0 rfl) ?_
      refine lv_iload_n C.1 C.2.1 dX7_stepTo_27 rfl (lv_at hl 2 rfl) ?_
      obtain ⟨r28, e28, h⟩ := bnd h
      refine afI X (runV C G X q_X7_around k_512 k_513 k_511 (rcX7 G X hk_a0) (c_X7_around l E hk_a0 e28) rfl hl.1 rfl (Nat.le_of_ble_eq_true rfl) ⟨Nat.le_of_ble_eq_true rfl, Nat.le_of_ble_eq_true rfl⟩ ⟨Nat.le_of_ble_eq_true rfl, Nat.le_of_ble_eq_true rfl⟩ dX7_stepTo_28) (fun H locs X => ?_)
      refine lv_ior C.1 C.2.1 dX7_stepTo_31 ?_
      refine lv_istore (lv' := [(5, .int (x3 ||| r28)), (0, .ref (gB E + a0)), (1, .int x1), (3, .int x3), (4, .int x4)]) C.1 C.2.1 dX7_stepTo_32 hl (by decide) rfl (fun ls hl => ?_)
      refine lv_iload C.1 C.2.1 dX7_stepTo_34 (lv_at hl 0 rfl) ?_
      refine lv_iload_n C.1 C.2.1 dX7_stepTo_36 rfl (lv_at hl 2 rfl) ?_
      obtain ⟨r37, e37, h⟩ := bnd h
      refine afI X (runN C G X q_X11_hasBit k_509 nw_9 (c_X11_hasBit l E e37) rfl hl.1 rfl (Nat.le_of_ble_eq_true rfl) ⟨Nat.le_of_ble_eq_true rfl, Nat.le_of_ble_eq_true rfl⟩ ⟨Nat.le_of_ble_eq_true rfl, Nat.le_of_ble_eq_true rfl⟩ dX7_stepTo_37) (fun H locs X => ?_)
      refine lv_if_eq (tgt := 57) C.1 C.2.1 dX7_stepTo_40 (by decide) (fun c40 => ?_) (fun c40 => ?_)
      · replace h := ipos c40 h
        refine lv_iload C.1 C.2.1 dX7_stepTo_57 (lv_at hl 0 rfl) ?_
        refine lv_istore_n (lv' := [(3, .int (x3 ||| r28)), (5, .int (x3 ||| r28)), (0, .ref (gB E + a0)), (1, .int x1), (4, .int x4)]) C.1 C.2.1 dX7_stepTo_59 rfl hl (by decide) rfl (fun ls hl => ?_)
        refine lv_iinc (v := (x4 + 1)) (lv' := [(4, .int (x4 + 1)), (3, .int (x3 ||| r28)), (5, .int (x3 ||| r28)), (0, .ref (gB E + a0)), (1, .int x1)]) C.1 C.2.1 dX7_stepTo_60 hl (k := 4) rfl rfl (by decide) rfl (fun ls hl => ?_)
        refine lv_goto (tgt := 18) C.1 C.2.1 dX7_stepTo_63 (by decide) ?_
        exact ih X hk_a0 (lv_sub hl [3, 4, 1, 0] rfl) h
      · replace h := ineg c40 h
        refine lv_iload_n C.1 C.2.1 dX7_stepTo_43 rfl (lv_at hl 3 rfl) ?_
        refine lv_aload_n C.1 C.2.1 dX7_stepTo_44 rfl (lv_at hl 1 rfl) ?_
        refine gfX7 C G X (k := a0) hk_a0 12 (v := .ref (gB E + (a0 + 7))) rfl rfl (by decide) k_245 rfl dX7_stepTo_45 ?_
        refine lv_iload_n C.1 C.2.1 dX7_stepTo_48 rfl (lv_at hl 2 rfl) ?_
        obtain ⟨r49, e49, h⟩ := bnd h
        refine afI X (runV C G X q_X6_get k_498 k_499 k_515 (rcX6 G X (kf_2_7 hk_a0)) (c_X6_get l E (kf_2_7 hk_a0) e49) rfl hl.1 rfl (Nat.le_of_ble_eq_true rfl) ⟨Nat.le_of_ble_eq_true rfl, Nat.le_of_ble_eq_true rfl⟩ ⟨Nat.le_of_ble_eq_true rfl, Nat.le_of_ble_eq_true rfl⟩ dX7_stepTo_49) (fun H locs X => ?_)
        refine lv_iand C.1 C.2.1 dX7_stepTo_52 ?_
        obtain ⟨r53, e53, h⟩ := bnd h
        refine afI X (runN C G X q_X11_lowest k_517 nw_10 (c_X11_lowest l E e53) rfl hl.1 rfl (Nat.le_of_ble_eq_true rfl) ⟨Nat.le_of_ble_eq_true rfl, Nat.le_of_ble_eq_true rfl⟩ ⟨Nat.le_of_ble_eq_true rfl, Nat.le_of_ble_eq_true rfl⟩ dX7_stepTo_53) (fun H locs X => ?_)
        rw [← Option.some.inj h]
        exact rtI C X dX7_stepTo_56

set_option maxRecDepth 20000 in
theorem w_X7_stepTo {r : Int32} {σ : Mem} {a0 : Nat} {x1 : Int32} {x2 : Int32} {ls : Array Slot} {H : Heap} {locs : List Loc} (C : Cx p s m args meth c cX7_stepTo (some .int) 6 RX7) (G : Gf E s) (X : Hx E σ s H locs) (hk_a0 : kd a0 = 2) (hl : lv_has ls 6 [(0, .ref (gB E + a0)), (1, .int x1), (2, .int x2)]) (h : X7_stepTo σ a0 x1 x2 = some r) : W p l e (RM 3) s m args below meth c H locs 0 0 (QI E below args s r σ) (F0 m 0 ls []) := by
  rw [X7_stepTo] at h
  refine lv_iload_n C.1 C.2.1 dX7_stepTo_0 rfl (lv_at hl 2 rfl) ?_
  obtain ⟨r1, e1, h⟩ := bnd h
  refine afI X (runN C G X q_X11_bit k_506 nw_8 (c_X11_bit l E e1) rfl hl.1 rfl (Nat.le_of_ble_eq_true rfl) ⟨Nat.le_of_ble_eq_true rfl, Nat.le_of_ble_eq_true rfl⟩ ⟨Nat.le_of_ble_eq_true rfl, Nat.le_of_ble_eq_true rfl⟩ dX7_stepTo_1) (fun H locs X => ?_)
  refine lv_istore_n (lv' := [(3, .int r1), (0, .ref (gB E + a0)), (1, .int x1), (2, .int x2)]) C.1 C.2.1 dX7_stepTo_4 rfl hl (by decide) rfl (fun ls hl => ?_)
  refine lv_iload_n C.1 C.2.1 dX7_stepTo_5 rfl (lv_at hl 0 rfl) ?_
  refine lv_iload_n C.1 C.2.1 dX7_stepTo_6 rfl (lv_at hl 2 rfl) ?_
  obtain ⟨r7, e7, h⟩ := bnd h
  refine afI X (runN C G X q_X11_hasBit k_509 nw_9 (c_X11_hasBit l E e7) rfl hl.1 rfl (Nat.le_of_ble_eq_true rfl) ⟨Nat.le_of_ble_eq_true rfl, Nat.le_of_ble_eq_true rfl⟩ ⟨Nat.le_of_ble_eq_true rfl, Nat.le_of_ble_eq_true rfl⟩ dX7_stepTo_7) (fun H locs X => ?_)
  refine lv_if_eq (tgt := 15) C.1 C.2.1 dX7_stepTo_10 (by decide) (fun c10 => ?_) (fun c10 => ?_)
  · replace h := ipos c10 h
    refine lv_iconst (v := 0) C.1 C.2.1 dX7_stepTo_15 (by decide) ?_
    refine lv_istore (lv' := [(4, .int (0 : Int32)), (3, .int r1), (0, .ref (gB E + a0)), (1, .int x1), (2, .int x2)]) C.1 C.2.1 dX7_stepTo_16 hl (by decide) rfl (fun ls hl => ?_)
    exact w_X7_stepTo_18 C G FU X hk_a0 (lv_sub hl [2, 3, 1, 0] rfl) h
  · replace h := ineg c10 h
    refine lv_iload_n C.1 C.2.1 dX7_stepTo_13 rfl (lv_at hl 2 rfl) ?_
    rw [← Option.some.inj h]
    exact rtI C X dX7_stepTo_14

theorem c_X7_stepTo (l : Launch) (E : GE) {σ : Mem} {a0 : Nat} {x1 : Int32} {x2 : Int32} (hk_a0 : kd a0 = 2) {r : Int32} (h : X7_stepTo σ a0 x1 x2 = some r) : CtI l E yX7_stepTo cX7_stepTo 6 .int 3 [.ref (gB E + a0), .int x1, .int x2] σ r σ := by
  refine Met.ofW (cc := cX7_stepTo) (maxL := 6) (ret := (some .int)) (by decide) rfl ?_
  intro p e s m args below meth c s₁ B hml hv
  obtain ⟨rfl, G, X⟩ := start hv
  have C := cxof B hml
  have hl := lv_entry [.ref (gB E + a0), .int x1, .int x2] (n := 6) (Nat.le_of_ble_eq_true rfl)
  rw [lg_entry_eq]
  generalize (lg_sl [.ref (gB E + a0), .int x1, .int x2] ++ List.replicate (6 - (lg_sl [.ref (gB E + a0), .int x1, .int x2]).length) Slot.unset).toArray = ls at hl ⊢
  exact w_X7_stepTo C G X hk_a0 hl h

set_option maxRecDepth 20000 in
theorem w_X0_walkOn_65 {r : Mem} {σ : Mem} {rc2 : Nat → Int32 → Mem → Option Mem} {a1 : Nat} {x2 : Int32} {b0 : Nat} {y1 : Int32} {y2 : Int32} {ls : Array Slot} {H : Heap} {locs : List Loc} (C : Cx p s m args meth c cX0_walkOn none 5 RX0) (G : Gf E s) (hr2 : ∀ {a1 : Nat} {x2 : Int32} {σ : Mem} {ls : Array Slot} {H : Heap} {locs : List Loc}, Hx E σ s H locs → kd a1 = 2 → lv_has ls 5 [(1, .ref (gB E + a1)), (2, .int x2)] → rc2 a1 x2 σ = some r → W p l e (RM 4) s m args below meth c H locs 0 0 (QV E below args s r) (F0 m 2 ls [])) (X : Hx E σ s H locs) (hk_a1 : kd a1 = 2) (hk_b0 : kd b0 = 1) (hl : lv_has ls 5 [(1, .ref (gB E + a1)), (2, .int x2)]) (h : X0_walkOn_65 rc2 a1 x2 b0 y1 y2 σ = some r) : W p l e (RM 4) s m args below meth c H locs 0 0 (QV E below args s r) (F0 m 65 ls [.int y2, .int y1, .ref (gB E + b0)]) := by
  rw [X0_walkOn_65] at h
  obtain ⟨σ65, e65, h⟩ := bnd h
  refine afV X (runV C G X q_X6_set k_451 k_452 k_520 (rcX6 G X hk_b0) (c_X6_set l E hk_b0 e65) rfl hl.1 rfl (Nat.le_of_ble_eq_true rfl) ⟨Nat.le_of_ble_eq_true rfl, Nat.le_of_ble_eq_true rfl⟩ ⟨Nat.le_of_ble_eq_true rfl, Nat.le_of_ble_eq_true rfl⟩ dX0_walkOn_65) (fun H locs X => ?_)
  refine lv_iinc (v := (x2 + 1)) (lv' := [(2, .int (x2 + 1)), (1, .ref (gB E + a1))]) C.1 C.2.1 dX0_walkOn_68 hl (k := 1) rfl rfl (by decide) rfl (fun ls hl => ?_)
  refine lv_goto (tgt := 2) C.1 C.2.1 dX0_walkOn_71 (by decide) ?_
  exact hr2 X hk_a1 (lv_sub hl [1, 0] rfl) h

set_option maxRecDepth 20000 in
theorem w_X0_walkOn_2 {r : Mem} (C : Cx p s m args meth c cX0_walkOn none 5 RX0) (G : Gf E s) : ∀ (f : Nat) {a1 : Nat} {x2 : Int32} {σ : Mem} {ls : Array Slot} {H : Heap} {locs : List Loc}, Hx E σ s H locs → kd a1 = 2 → lv_has ls 5 [(1, .ref (gB E + a1)), (2, .int x2)] → X0_walkOn_2 f a1 x2 σ = some r → W p l e (RM 4) s m args below meth c H locs 0 0 (QV E below args s r) (F0 m 2 ls []) := by
  intro f
  induction f with
  | zero =>
    intro a1 x2 σ ls H locs X hk_a1 hl h
    rw [X0_walkOn_2] at h
    cases h
  | succ f ih =>
    intro a1 x2 σ ls H locs X hk_a1 hl h
    rw [X0_walkOn_2] at h
    refine lv_iload_n C.1 C.2.1 dX0_walkOn_2 rfl (lv_at hl 1 rfl) ?_
    refine lv_aload_n C.1 C.2.1 dX0_walkOn_3 rfl (lv_at hl 0 rfl) ?_
    refine gfX7 C G X (k := a1) hk_a1 1 (v := .int (σ a1 1)) rfl rfl (by decide) k_206 rfl dX0_walkOn_4 ?_
    refine lv_icmp_ge (tgt := 74) C.1 C.2.1 dX0_walkOn_7 (by decide) (fun c7 => ?_) (fun c7 => ?_)
    · replace h := ipos c7 h
      rw [← Option.some.inj h]
      exact rtV C X dX0_walkOn_74
    · replace h := ineg c7 h
      refine lv_aload_n C.1 C.2.1 dX0_walkOn_10 rfl (lv_at hl 0 rfl) ?_
      refine gfX7 C G X (k := a1) hk_a1 15 (v := .ref (gB E + (a1 + 13))) rfl rfl (by decide) k_256 rfl dX0_walkOn_11 ?_
      refine lv_iload_n C.1 C.2.1 dX0_walkOn_14 rfl (lv_at hl 1 rfl) ?_
      obtain ⟨r15, e15, h⟩ := bnd h
      refine afI X (runV C G X q_X6_get k_498 k_499 k_497 (rcX6 G X (kf_2_13 hk_a1)) (c_X6_get l E (kf_2_13 hk_a1) e15) rfl hl.1 rfl (Nat.le_of_ble_eq_true rfl) ⟨Nat.le_of_ble_eq_true rfl, Nat.le_of_ble_eq_true rfl⟩ ⟨Nat.le_of_ble_eq_true rfl, Nat.le_of_ble_eq_true rfl⟩ dX0_walkOn_15) (fun H locs X => ?_)
      refine lv_istore_n (lv' := [(3, .int r15), (1, .ref (gB E + a1)), (2, .int x2)]) C.1 C.2.1 dX0_walkOn_18 rfl hl (by decide) rfl (fun ls hl => ?_)
      refine lv_iload_n C.1 C.2.1 dX0_walkOn_19 rfl (lv_at hl 0 rfl) ?_
      refine lv_iconst (v := -1) C.1 C.2.1 dX0_walkOn_20 (by decide) ?_
      refine lv_icmp_eq (tgt := 68) C.1 C.2.1 dX0_walkOn_21 (by decide) (fun c21 => ?_) (fun c21 => ?_)
      · replace h := ipos c21 h
        refine lv_iinc (v := (x2 + 1)) (lv' := [(2, .int (x2 + 1)), (3, .int r15), (1, .ref (gB E + a1))]) C.1 C.2.1 dX0_walkOn_68 hl (k := 2) rfl rfl (by decide) rfl (fun ls hl => ?_)
        refine lv_goto (tgt := 2) C.1 C.2.1 dX0_walkOn_71 (by decide) ?_
        exact ih X hk_a1 (lv_sub hl [2, 0] rfl) h
      · replace h := ineg c21 h
        refine lv_aload_n C.1 C.2.1 dX0_walkOn_24 rfl (lv_at hl 1 rfl) ?_
        refine lv_aload_n C.1 C.2.1 dX0_walkOn_25 rfl (lv_at hl 1 rfl) ?_
        refine gfX7 C G X (k := a1) hk_a1 13 (v := .ref (gB E + (a1 + 9))) rfl rfl (by decide) k_248 rfl dX0_walkOn_26 ?_
        refine lv_iload_n C.1 C.2.1 dX0_walkOn_29 rfl (lv_at hl 2 rfl) ?_
        obtain ⟨r30, e30, h⟩ := bnd h
        refine afI X (runV C G X q_X6_get k_498 k_499 k_497 (rcX6 G X (kf_2_9 hk_a1)) (c_X6_get l E (kf_2_9 hk_a1) e30) rfl hl.1 rfl (Nat.le_of_ble_eq_true rfl) ⟨Nat.le_of_ble_eq_true rfl, Nat.le_of_ble_eq_true rfl⟩ ⟨Nat.le_of_ble_eq_true rfl, Nat.le_of_ble_eq_true rfl⟩ dX0_walkOn_30) (fun H locs X => ?_)
        refine lv_iload_n C.1 C.2.1 dX0_walkOn_33 rfl (lv_at hl 0 rfl) ?_
        obtain ⟨r34, e34, h⟩ := bnd h
        refine afI X (runV C G X q_X7_stepTo k_502 k_503 k_501 (rcX7 G X hk_a1) (c_X7_stepTo l E hk_a1 e34) rfl hl.1 rfl (Nat.le_of_ble_eq_true rfl) ⟨Nat.le_of_ble_eq_true rfl, Nat.le_of_ble_eq_true rfl⟩ ⟨Nat.le_of_ble_eq_true rfl, Nat.le_of_ble_eq_true rfl⟩ dX0_walkOn_34) (fun H locs X => ?_)
        refine lv_istore (lv' := [(4, .int r34), (3, .int r15), (1, .ref (gB E + a1)), (2, .int x2)]) C.1 C.2.1 dX0_walkOn_37 hl (by decide) rfl (fun ls hl => ?_)
        refine lv_aload_n C.1 C.2.1 dX0_walkOn_39 rfl (lv_at hl 2 rfl) ?_
        refine gfX7 C G X (k := a1) hk_a1 13 (v := .ref (gB E + (a1 + 9))) rfl rfl (by decide) k_248 rfl dX0_walkOn_40 ?_
        refine lv_iload_n C.1 C.2.1 dX0_walkOn_43 rfl (lv_at hl 3 rfl) ?_
        refine lv_iload C.1 C.2.1 dX0_walkOn_44 (lv_at hl 0 rfl) ?_
        obtain ⟨σ46, e46, h⟩ := bnd h
        refine afV X (runV C G X q_X6_set k_451 k_452 k_520 (rcX6 G X (kf_2_9 hk_a1)) (c_X6_set l E (kf_2_9 hk_a1) e46) rfl hl.1 rfl (Nat.le_of_ble_eq_true rfl) ⟨Nat.le_of_ble_eq_true rfl, Nat.le_of_ble_eq_true rfl⟩ ⟨Nat.le_of_ble_eq_true rfl, Nat.le_of_ble_eq_true rfl⟩ dX0_walkOn_46) (fun H locs X => ?_)
        refine lv_aload_n C.1 C.2.1 dX0_walkOn_49 rfl (lv_at hl 2 rfl) ?_
        refine gfX7 C G X (k := a1) hk_a1 15 (v := .ref (gB E + (a1 + 13))) rfl rfl (by decide) k_256 rfl dX0_walkOn_50 ?_
        refine lv_iload_n C.1 C.2.1 dX0_walkOn_53 rfl (lv_at hl 3 rfl) ?_
        refine lv_iload C.1 C.2.1 dX0_walkOn_54 (lv_at hl 0 rfl) ?_
        refine lv_iload_n C.1 C.2.1 dX0_walkOn_56 rfl (lv_at hl 1 rfl) ?_
        refine lv_icmp_ne (tgt := 64) C.1 C.2.1 dX0_walkOn_57 (by decide) (fun c57 => ?_) (fun c57 => ?_)
        · replace h := ineg c57 h
          refine lv_iload_n C.1 C.2.1 dX0_walkOn_64 rfl (lv_at hl 1 rfl) ?_
          exact w_X0_walkOn_65 C G ih X hk_a1 (kf_2_13 hk_a1) (lv_sub hl [2, 3] rfl) h
        · replace h := ipos c57 h
          refine lv_iconst (v := -1) C.1 C.2.1 dX0_walkOn_60 (by decide) ?_
          refine lv_goto (tgt := 65) C.1 C.2.1 dX0_walkOn_61 (by decide) ?_
          exact w_X0_walkOn_65 C G ih X hk_a1 (kf_2_13 hk_a1) (lv_sub hl [2, 3] rfl) h

set_option maxRecDepth 20000 in
theorem w_X0_walkOn {r : Mem} {σ : Mem} {a1 : Nat} {ls : Array Slot} {H : Heap} {locs : List Loc} (C : Cx p s m args meth c cX0_walkOn none 5 RX0) (G : Gf E s) (X : Hx E σ s H locs) (hk_a1 : kd a1 = 2) (hl : lv_has ls 5 [(0, .ref (gB E + 365)), (1, .ref (gB E + a1))]) (h : X0_walkOn a1 σ = some r) : W p l e (RM 4) s m args below meth c H locs 0 0 (QV E below args s r) (F0 m 0 ls []) := by
  rw [X0_walkOn] at h
  refine lv_iconst (v := 0) C.1 C.2.1 dX0_walkOn_0 (by decide) ?_
  refine lv_istore_n (lv' := [(2, .int (0 : Int32)), (0, .ref (gB E + 365)), (1, .ref (gB E + a1))]) C.1 C.2.1 dX0_walkOn_1 rfl hl (by decide) rfl (fun ls hl => ?_)
  exact w_X0_walkOn_2 C G FU X hk_a1 (lv_sub hl [2, 0] rfl) h

theorem c_X0_walkOn (l : Launch) (E : GE) {σ : Mem} {a1 : Nat} (hk_a1 : kd a1 = 2) {r : Mem} (h : X0_walkOn a1 σ = some r) : CtV l E yX0_walkOn cX0_walkOn 5 4 [.ref (gB E + 365), .ref (gB E + a1)] σ r := by
  refine Met.ofW (cc := cX0_walkOn) (maxL := 5) (ret := none) (by decide) rfl ?_
  intro p e s m args below meth c s₁ B hml hv
  obtain ⟨rfl, G, X⟩ := start hv
  have C := cxof B hml
  have hl := lv_entry [.ref (gB E + 365), .ref (gB E + a1)] (n := 5) (Nat.le_of_ble_eq_true rfl)
  rw [lg_entry_eq]
  generalize (lg_sl [.ref (gB E + 365), .ref (gB E + a1)] ++ List.replicate (5 - (lg_sl [.ref (gB E + 365), .ref (gB E + a1)]).length) Slot.unset).toArray = ls at hl ⊢
  exact w_X0_walkOn C G X hk_a1 hl h

set_option maxRecDepth 20000 in
theorem w_X6_add {r : Mem} {σ : Mem} {a0 : Nat} {x1 : Int32} {x2 : Int32} {ls : Array Slot} {H : Heap} {locs : List Loc} (C : Cx p s m args meth c cX6_add none 3 RX6) (G : Gf E s) (X : Hx E σ s H locs) (hk_a0 : kd a0 = 1) (hl : lv_has ls 3 [(0, .ref (gB E + a0)), (1, .int x1), (2, .int x2)]) (h : X6_add a0 x1 x2 σ = some r) : W p l e (RM 1) s m args below meth c H locs 0 0 (QV E below args s r) (F0 m 0 ls []) := by
  rw [X6_add] at h
  refine lv_iload_n C.1 C.2.1 dX6_add_0 rfl (lv_at hl 1 rfl) ?_
  refine lv_if_lt (tgt := 23) C.1 C.2.1 dX6_add_1 (by decide) (fun c1 => ?_) (fun c1 => ?_)
  · replace h := ipos c1 h
    rw [← Option.some.inj h]
    exact rtV C X dX6_add_23
  · replace h := ineg c1 h
    refine lv_iload_n C.1 C.2.1 dX6_add_4 rfl (lv_at hl 1 rfl) ?_
    refine lv_aload_n C.1 C.2.1 dX6_add_5 rfl (lv_at hl 0 rfl) ?_
    refine gfX6 C G X (k := a0) hk_a0 0 (v := .ref (gB E + (a0 + 1))) rfl rfl (by decide) k_157 rfl dX6_add_6 ?_
    refine aln C G X (kf_1_1 hk_a0) dX6_add_9 ?_
    refine lv_icmp_ge (tgt := 23) C.1 C.2.1 dX6_add_10 (by decide) (fun c10 => ?_) (fun c10 => ?_)
    · replace h := ipos c10 h
      rw [← Option.some.inj h]
      exact rtV C X dX6_add_23
    · replace h := ineg c10 h
      refine lv_aload_n C.1 C.2.1 dX6_add_13 rfl (lv_at hl 0 rfl) ?_
      refine gfX6 C G X (k := a0) hk_a0 0 (v := .ref (gB E + (a0 + 1))) rfl rfl (by decide) k_157 rfl dX6_add_14 ?_
      refine lv_iload_n C.1 C.2.1 dX6_add_17 rfl (lv_at hl 1 rfl) ?_
      refine lv_dup2_11 C.1 C.2.1 dX6_add_18 rfl rfl ?_
      obtain ⟨r19, e19, h⟩ := bnd h
      refine ald C G X (k := (a0 + 1)) (kf_1_1 hk_a0) (ag_s e19).1 dX6_add_19 ?_
      rw [(ag_s e19).2]
      refine lv_iload_n C.1 C.2.1 dX6_add_20 rfl (lv_at hl 2 rfl) ?_
      refine lv_iadd C.1 C.2.1 dX6_add_21 ?_
      obtain ⟨σ22, e22, h⟩ := bnd h
      refine ast C G X (k := (a0 + 1)) (kf_1_1 hk_a0) (au_s e22).1 dX6_add_22 (fun H locs X => ?_)
      rw [(au_s e22).2] at X
      rw [← Option.some.inj h]
      exact rtV C X dX6_add_23

theorem c_X6_add (l : Launch) (E : GE) {σ : Mem} {a0 : Nat} {x1 : Int32} {x2 : Int32} (hk_a0 : kd a0 = 1) {r : Mem} (h : X6_add a0 x1 x2 σ = some r) : CtV l E yX6_add cX6_add 3 1 [.ref (gB E + a0), .int x1, .int x2] σ r := by
  refine Met.ofW (cc := cX6_add) (maxL := 3) (ret := none) (by decide) rfl ?_
  intro p e s m args below meth c s₁ B hml hv
  obtain ⟨rfl, G, X⟩ := start hv
  have C := cxof B hml
  have hl := lv_entry [.ref (gB E + a0), .int x1, .int x2] (n := 3) (Nat.le_of_ble_eq_true rfl)
  rw [lg_entry_eq]
  generalize (lg_sl [.ref (gB E + a0), .int x1, .int x2] ++ List.replicate (3 - (lg_sl [.ref (gB E + a0), .int x1, .int x2]).length) Slot.unset).toArray = ls at hl ⊢
  exact w_X6_add C G X hk_a0 hl h

set_option maxRecDepth 20000 in
theorem w_X7_write {r : Mem} {σ : Mem} {a0 : Nat} {x1 : Int32} {x2 : Int32} {x3 : Int32} {ls : Array Slot} {H : Heap} {locs : List Loc} (C : Cx p s m args meth c cX7_write none 5 RX7) (G : Gf E s) (X : Hx E σ s H locs) (hk_a0 : kd a0 = 2) (hl : lv_has ls 5 [(0, .ref (gB E + a0)), (1, .int x1), (2, .int x2), (3, .int x3)]) (h : X7_write a0 x1 x2 x3 σ = some r) : W p l e (RM 2) s m args below meth c H locs 0 0 (QV E below args s r) (F0 m 0 ls []) := by
  rw [X7_write] at h
  refine lv_aload_n C.1 C.2.1 dX7_write_0 rfl (lv_at hl 0 rfl) ?_
  refine gfX7 C G X (k := a0) hk_a0 4 (v := .int (σ a0 4)) rfl rfl (by decide) k_215 rfl dX7_write_1 ?_
  refine lv_bipush (v := 32) C.1 C.2.1 dX7_write_4 (by decide) ?_
  refine lv_imul C.1 C.2.1 dX7_write_6 ?_
  refine lv_aload_n C.1 C.2.1 dX7_write_7 rfl (lv_at hl 0 rfl) ?_
  refine gfX7 C G X (k := a0) hk_a0 3 (v := .int (σ a0 3)) rfl rfl (by decide) k_211 rfl dX7_write_8 ?_
  refine lv_iadd C.1 C.2.1 dX7_write_11 ?_
  refine lv_iconst (v := 4) C.1 C.2.1 dX7_write_12 (by decide) ?_
  refine lv_imul C.1 C.2.1 dX7_write_13 ?_
  refine lv_iload_n C.1 C.2.1 dX7_write_14 rfl (lv_at hl 1 rfl) ?_
  refine lv_iadd C.1 C.2.1 dX7_write_15 ?_
  refine lv_bipush (v := 16) C.1 C.2.1 dX7_write_16 (by decide) ?_
  refine lv_imul C.1 C.2.1 dX7_write_18 ?_
  refine lv_iload_n C.1 C.2.1 dX7_write_19 rfl (lv_at hl 2 rfl) ?_
  refine lv_iadd C.1 C.2.1 dX7_write_20 ?_
  refine lv_bipush (v := 8) C.1 C.2.1 dX7_write_21 (by decide) ?_
  refine lv_imul C.1 C.2.1 dX7_write_23 ?_
  refine lv_iload_n C.1 C.2.1 dX7_write_24 rfl (lv_at hl 3 rfl) ?_
  refine lv_iadd C.1 C.2.1 dX7_write_25 ?_
  refine lv_iconst (v := 1) C.1 C.2.1 dX7_write_26 (by decide) ?_
  refine lv_iadd C.1 C.2.1 dX7_write_27 ?_
  obtain ⟨v28, e28, h⟩ := bnd h
  rw [Option.some.inj e28]
  refine lv_istore (lv' := [(4, .int v28), (0, .ref (gB E + a0)), (1, .int x1), (2, .int x2), (3, .int x3)]) C.1 C.2.1 dX7_write_28 hl (by decide) rfl (fun ls hl => ?_)
  refine lv_aload_n C.1 C.2.1 dX7_write_30 rfl (lv_at hl 1 rfl) ?_
  refine gfX7 C G X (k := a0) hk_a0 18 (v := .ref (gB E + (a0 + 19))) rfl rfl (by decide) k_261 rfl dX7_write_31 ?_
  refine lv_aload_n C.1 C.2.1 dX7_write_34 rfl (lv_at hl 1 rfl) ?_
  refine gfX7 C G X (k := a0) hk_a0 19 (v := .int (σ a0 19)) rfl rfl (by decide) k_262 rfl dX7_write_35 ?_
  refine lv_bipush (v := 60) C.1 C.2.1 dX7_write_38 (by decide) ?_
  refine lv_irem C.1 C.2.1 dX7_write_40 (by decide) ?_
  refine lv_iload C.1 C.2.1 dX7_write_41 (lv_at hl 0 rfl) ?_
  obtain ⟨σ43, e43, h⟩ := bnd h
  refine afV X (runV C G X q_X6_set k_451 k_452 k_582 (rcX6 G X (kf_2_19 hk_a0)) (c_X6_set l E (kf_2_19 hk_a0) e43) rfl hl.1 rfl (Nat.le_of_ble_eq_true rfl) ⟨Nat.le_of_ble_eq_true rfl, Nat.le_of_ble_eq_true rfl⟩ ⟨Nat.le_of_ble_eq_true rfl, Nat.le_of_ble_eq_true rfl⟩ dX7_write_43) (fun H locs X => ?_)
  refine lv_aload_n C.1 C.2.1 dX7_write_46 rfl (lv_at hl 1 rfl) ?_
  refine lv_dup C.1 C.2.1 dX7_write_47 rfl ?_
  refine gfX7 C G X (k := a0) hk_a0 19 (v := .int (σ43 a0 19)) rfl rfl (by decide) k_262 rfl dX7_write_48 ?_
  refine lv_iconst (v := 1) C.1 C.2.1 dX7_write_51 (by decide) ?_
  refine lv_iadd C.1 C.2.1 dX7_write_52 ?_
  obtain ⟨σ53, e53, h⟩ := bnd h
  refine pfX7 C G X (k := a0) hk_a0 19 (x := ((σ43 a0 19) + (1 : Int32))) (ty := .int) rfl rfl (Nat.le_of_ble_eq_true rfl) (by decide) k_262 rfl rfl (by decide +kernel) rfl rfl dX7_write_53 (fun H locs X => ?_)
  replace X := pu_x e53 X
  rw [← Option.some.inj h]
  exact rtV C X dX7_write_56

theorem c_X7_write (l : Launch) (E : GE) {σ : Mem} {a0 : Nat} {x1 : Int32} {x2 : Int32} {x3 : Int32} (hk_a0 : kd a0 = 2) {r : Mem} (h : X7_write a0 x1 x2 x3 σ = some r) : CtV l E yX7_write cX7_write 5 2 [.ref (gB E + a0), .int x1, .int x2, .int x3] σ r := by
  refine Met.ofW (cc := cX7_write) (maxL := 5) (ret := none) (by decide) rfl ?_
  intro p e s m args below meth c s₁ B hml hv
  obtain ⟨rfl, G, X⟩ := start hv
  have C := cxof B hml
  have hl := lv_entry [.ref (gB E + a0), .int x1, .int x2, .int x3] (n := 5) (Nat.le_of_ble_eq_true rfl)
  rw [lg_entry_eq]
  generalize (lg_sl [.ref (gB E + a0), .int x1, .int x2, .int x3] ++ List.replicate (5 - (lg_sl [.ref (gB E + a0), .int x1, .int x2, .int x3]).length) Slot.unset).toArray = ls at hl ⊢
  exact w_X7_write C G X hk_a0 hl h

set_option maxRecDepth 20000 in
theorem w_X7_light_92 {r : Mem} {σ : Mem} {a0 : Nat} {x1 : Int32} {x2 : Int32} {x3 : Int32} {ls : Array Slot} {H : Heap} {locs : List Loc} (C : Cx p s m args meth c cX7_light none 5 RX7) (G : Gf E s) (X : Hx E σ s H locs) (hk_a0 : kd a0 = 2) (hl : lv_has ls 5 [(0, .ref (gB E + a0)), (1, .int x1), (2, .int x2), (3, .int x3)]) (h : X7_light_92 a0 x1 x2 x3 σ = some r) : W p l e (RM 3) s m args below meth c H locs 0 0 (QV E below args s r) (F0 m 92 ls []) := by
  rw [X7_light_92] at h
  refine lv_aload_n C.1 C.2.1 dX7_light_92 rfl (lv_at hl 0 rfl) ?_
  refine lv_iload_n C.1 C.2.1 dX7_light_93 rfl (lv_at hl 3 rfl) ?_
  refine lv_iload_n C.1 C.2.1 dX7_light_94 rfl (lv_at hl 2 rfl) ?_
  refine lv_iload_n C.1 C.2.1 dX7_light_95 rfl (lv_at hl 1 rfl) ?_
  obtain ⟨σ96, e96, h⟩ := bnd h
  refine afV X (runV C G X q_X7_write k_593 k_594 k_592 (rcX7 G X hk_a0) (c_X7_write l E hk_a0 e96) rfl hl.1 rfl (Nat.le_of_ble_eq_true rfl) ⟨Nat.le_of_ble_eq_true rfl, Nat.le_of_ble_eq_true rfl⟩ ⟨Nat.le_of_ble_eq_true rfl, Nat.le_of_ble_eq_true rfl⟩ dX7_light_96) (fun H locs X => ?_)
  rw [← Option.some.inj h]
  exact rtV C X dX7_light_99

set_option maxRecDepth 20000 in
theorem w_X7_light {r : Mem} {σ : Mem} {a0 : Nat} {x1 : Int32} {x2 : Int32} {x3 : Int32} {ls : Array Slot} {H : Heap} {locs : List Loc} (C : Cx p s m args meth c cX7_light none 5 RX7) (G : Gf E s) (X : Hx E σ s H locs) (hk_a0 : kd a0 = 2) (hl : lv_has ls 5 [(0, .ref (gB E + a0)), (1, .int x1), (2, .int x2), (3, .int x3)]) (h : X7_light a0 x1 x2 x3 σ = some r) : W p l e (RM 3) s m args below meth c H locs 0 0 (QV E below args s r) (F0 m 0 ls []) := by
  rw [X7_light] at h
  refine lv_aload_n C.1 C.2.1 dX7_light_0 rfl (lv_at hl 0 rfl) ?_
  refine lv_dup C.1 C.2.1 dX7_light_1 rfl ?_
  refine gfX7 C G X (k := a0) hk_a0 8 (v := .int (σ a0 8)) rfl rfl (by decide) k_229 rfl dX7_light_2 ?_
  refine lv_iload_n C.1 C.2.1 dX7_light_5 rfl (lv_at hl 2 rfl) ?_
  obtain ⟨r6, e6, h⟩ := bnd h
  refine afI X (runN C G X q_X11_bit k_506 nw_8 (c_X11_bit l E e6) rfl hl.1 rfl (Nat.le_of_ble_eq_true rfl) ⟨Nat.le_of_ble_eq_true rfl, Nat.le_of_ble_eq_true rfl⟩ ⟨Nat.le_of_ble_eq_true rfl, Nat.le_of_ble_eq_true rfl⟩ dX7_light_6) (fun H locs X => ?_)
  refine lv_ior C.1 C.2.1 dX7_light_9 ?_
  obtain ⟨σ10, e10, h⟩ := bnd h
  refine pfX7 C G X (k := a0) hk_a0 8 (x := ((σ a0 8) ||| r6)) (ty := .int) rfl rfl (Nat.le_of_ble_eq_true rfl) (by decide) k_229 rfl rfl (by decide +kernel) rfl rfl dX7_light_10 (fun H locs X => ?_)
  replace X := pu_x e10 X
  refine lv_aload_n C.1 C.2.1 dX7_light_13 rfl (lv_at hl 0 rfl) ?_
  refine gfX7 C G X (k := a0) hk_a0 11 (v := .ref (gB E + (a0 + 5))) rfl rfl (by decide) k_241 rfl dX7_light_14 ?_
  refine lv_iload_n C.1 C.2.1 dX7_light_17 rfl (lv_at hl 2 rfl) ?_
  refine lv_iconst (v := 0) C.1 C.2.1 dX7_light_18 (by decide) ?_
  obtain ⟨σ19, e19, h⟩ := bnd h
  refine afV X (runV C G X q_X6_set k_451 k_452 k_582 (rcX6 G X (kf_2_5 hk_a0)) (c_X6_set l E (kf_2_5 hk_a0) e19) rfl hl.1 rfl (Nat.le_of_ble_eq_true rfl) ⟨Nat.le_of_ble_eq_true rfl, Nat.le_of_ble_eq_true rfl⟩ ⟨Nat.le_of_ble_eq_true rfl, Nat.le_of_ble_eq_true rfl⟩ dX7_light_19) (fun H locs X => ?_)
  refine lv_aload_n C.1 C.2.1 dX7_light_22 rfl (lv_at hl 0 rfl) ?_
  refine gfX7 C G X (k := a0) hk_a0 14 (v := .ref (gB E + (a0 + 11))) rfl rfl (by decide) k_251 rfl dX7_light_23 ?_
  refine lv_iload_n C.1 C.2.1 dX7_light_26 rfl (lv_at hl 1 rfl) ?_
  refine lv_iconst (v := -1) C.1 C.2.1 dX7_light_27 (by decide) ?_
  obtain ⟨σ28, e28, h⟩ := bnd h
  refine afV X (runV C G X q_X6_add k_584 k_585 k_583 (rcX6 G X (kf_2_11 hk_a0)) (c_X6_add l E (kf_2_11 hk_a0) e28) rfl hl.1 rfl (Nat.le_of_ble_eq_true rfl) ⟨Nat.le_of_ble_eq_true rfl, Nat.le_of_ble_eq_true rfl⟩ ⟨Nat.le_of_ble_eq_true rfl, Nat.le_of_ble_eq_true rfl⟩ dX7_light_28) (fun H locs X => ?_)
  refine lv_aload_n C.1 C.2.1 dX7_light_31 rfl (lv_at hl 0 rfl) ?_
  refine gfX7 C G X (k := a0) hk_a0 16 (v := .ref (gB E + (a0 + 15))) rfl rfl (by decide) k_258 rfl dX7_light_32 ?_
  refine lv_iload_n C.1 C.2.1 dX7_light_35 rfl (lv_at hl 1 rfl) ?_
  refine lv_aload_n C.1 C.2.1 dX7_light_36 rfl (lv_at hl 0 rfl) ?_
  refine gfX7 C G X (k := a0) hk_a0 16 (v := .ref (gB E + (a0 + 15))) rfl rfl (by decide) k_258 rfl dX7_light_37 ?_
  refine lv_iload_n C.1 C.2.1 dX7_light_40 rfl (lv_at hl 1 rfl) ?_
  obtain ⟨r41, e41, h⟩ := bnd h
  refine afI X (runV C G X q_X6_get k_498 k_499 k_515 (rcX6 G X (kf_2_15 hk_a0)) (c_X6_get l E (kf_2_15 hk_a0) e41) rfl hl.1 rfl (Nat.le_of_ble_eq_true rfl) ⟨Nat.le_of_ble_eq_true rfl, Nat.le_of_ble_eq_true rfl⟩ ⟨Nat.le_of_ble_eq_true rfl, Nat.le_of_ble_eq_true rfl⟩ dX7_light_41) (fun H locs X => ?_)
  refine lv_iconst (v := 1) C.1 C.2.1 dX7_light_44 (by decide) ?_
  refine lv_iadd C.1 C.2.1 dX7_light_45 ?_
  refine lv_sipush (v := 999) C.1 C.2.1 dX7_light_46 (by decide) ?_
  refine mmin C hl.1 (cells := 0) k_587 ⟨Nat.le_of_ble_eq_true rfl, Nat.le_of_ble_eq_true rfl, Nat.le_of_ble_eq_true rfl, Nat.le_of_ble_eq_true rfl⟩ dX7_light_49 ?_
  obtain ⟨σ52, e52, h⟩ := bnd h
  refine afV X (runV C G X q_X6_set k_451 k_452 k_582 (rcX6 G X (kf_2_15 hk_a0)) (c_X6_set l E (kf_2_15 hk_a0) e52) rfl hl.1 rfl (Nat.le_of_ble_eq_true rfl) ⟨Nat.le_of_ble_eq_true rfl, Nat.le_of_ble_eq_true rfl⟩ ⟨Nat.le_of_ble_eq_true rfl, Nat.le_of_ble_eq_true rfl⟩ dX7_light_52) (fun H locs X => ?_)
  refine lv_aload_n C.1 C.2.1 dX7_light_55 rfl (lv_at hl 0 rfl) ?_
  refine gfX7 C G X (k := a0) hk_a0 10 (v := .ref (gB E + (a0 + 3))) rfl rfl (by decide) k_235 rfl dX7_light_56 ?_
  refine lv_iload_n C.1 C.2.1 dX7_light_59 rfl (lv_at hl 2 rfl) ?_
  obtain ⟨r60, e60, h⟩ := bnd h
  refine afI X (runV C G X q_X6_get k_498 k_499 k_515 (rcX6 G X (kf_2_3 hk_a0)) (c_X6_get l E (kf_2_3 hk_a0) e60) rfl hl.1 rfl (Nat.le_of_ble_eq_true rfl) ⟨Nat.le_of_ble_eq_true rfl, Nat.le_of_ble_eq_true rfl⟩ ⟨Nat.le_of_ble_eq_true rfl, Nat.le_of_ble_eq_true rfl⟩ dX7_light_60) (fun H locs X => ?_)
  refine lv_istore (lv' := [(4, .int r60), (0, .ref (gB E + a0)), (1, .int x1), (2, .int x2), (3, .int x3)]) C.1 C.2.1 dX7_light_63 hl (by decide) rfl (fun ls hl => ?_)
  refine lv_iload C.1 C.2.1 dX7_light_65 (lv_at hl 0 rfl) ?_
  refine lv_iconst (v := -1) C.1 C.2.1 dX7_light_67 (by decide) ?_
  refine lv_icmp_eq (tgt := 92) C.1 C.2.1 dX7_light_68 (by decide) (fun c68 => ?_) (fun c68 => ?_)
  · replace h := ipos c68 h
    exact w_X7_light_92 C G X hk_a0 (lv_sub hl [1, 2, 3, 4] rfl) h
  · replace h := ineg c68 h
    refine lv_aload_n C.1 C.2.1 dX7_light_71 rfl (lv_at hl 1 rfl) ?_
    refine lv_iload C.1 C.2.1 dX7_light_72 (lv_at hl 0 rfl) ?_
    refine lv_iload_n C.1 C.2.1 dX7_light_74 rfl (lv_at hl 2 rfl) ?_
    refine lv_aload_n C.1 C.2.1 dX7_light_75 rfl (lv_at hl 1 rfl) ?_
    refine lv_iload C.1 C.2.1 dX7_light_76 (lv_at hl 0 rfl) ?_
    refine lv_iload_n C.1 C.2.1 dX7_light_78 rfl (lv_at hl 2 rfl) ?_
    obtain ⟨r79, e79, h⟩ := bnd h
    refine afI X (runV C G X q_X7_likesOf k_530 k_531 k_529 (rcX7 G X hk_a0) (c_X7_likesOf l E hk_a0 e79) rfl hl.1 rfl (Nat.le_of_ble_eq_true rfl) ⟨Nat.le_of_ble_eq_true rfl, Nat.le_of_ble_eq_true rfl⟩ ⟨Nat.le_of_ble_eq_true rfl, Nat.le_of_ble_eq_true rfl⟩ dX7_light_79) (fun H locs X => ?_)
    refine lv_iconst (v := 1) C.1 C.2.1 dX7_light_82 (by decide) ?_
    refine lv_iadd C.1 C.2.1 dX7_light_83 ?_
    refine lv_bipush (v := 9) C.1 C.2.1 dX7_light_84 (by decide) ?_
    refine mmin C hl.1 (cells := 0) k_587 ⟨Nat.le_of_ble_eq_true rfl, Nat.le_of_ble_eq_true rfl, Nat.le_of_ble_eq_true rfl, Nat.le_of_ble_eq_true rfl⟩ dX7_light_86 ?_
    obtain ⟨σ89, e89, h⟩ := bnd h
    refine afV X (runV C G X q_X7_setLikes k_589 k_590 k_588 (rcX7 G X hk_a0) (c_X7_setLikes l E hk_a0 e89) rfl hl.1 rfl (Nat.le_of_ble_eq_true rfl) ⟨Nat.le_of_ble_eq_true rfl, Nat.le_of_ble_eq_true rfl⟩ ⟨Nat.le_of_ble_eq_true rfl, Nat.le_of_ble_eq_true rfl⟩ dX7_light_89) (fun H locs X => ?_)
    exact w_X7_light_92 C G X hk_a0 (lv_sub hl [1, 2, 3, 4] rfl) h

theorem c_X7_light (l : Launch) (E : GE) {σ : Mem} {a0 : Nat} {x1 : Int32} {x2 : Int32} {x3 : Int32} (hk_a0 : kd a0 = 2) {r : Mem} (h : X7_light a0 x1 x2 x3 σ = some r) : CtV l E yX7_light cX7_light 5 3 [.ref (gB E + a0), .int x1, .int x2, .int x3] σ r := by
  refine Met.ofW (cc := cX7_light) (maxL := 5) (ret := none) (by decide) rfl ?_
  intro p e s m args below meth c s₁ B hml hv
  obtain ⟨rfl, G, X⟩ := start hv
  have C := cxof B hml
  have hl := lv_entry [.ref (gB E + a0), .int x1, .int x2, .int x3] (n := 5) (Nat.le_of_ble_eq_true rfl)
  rw [lg_entry_eq]
  generalize (lg_sl [.ref (gB E + a0), .int x1, .int x2, .int x3] ++ List.replicate (5 - (lg_sl [.ref (gB E + a0), .int x1, .int x2, .int x3]).length) Slot.unset).toArray = ls at hl ⊢
  exact w_X7_light C G X hk_a0 hl h

set_option maxRecDepth 20000 in
theorem w_X0_lightLamps_5 {r : (Int32 × Mem)} (C : Cx p s m args meth c cX0_lightLamps (some .int) 7 RX0) (G : Gf E s) : ∀ (f : Nat) {a1 : Nat} {a2 : Nat} {x3 : Int32} {x4 : Int32} {σ : Mem} {ls : Array Slot} {H : Heap} {locs : List Loc}, Hx E σ s H locs → kd a1 = 2 → kd a2 = 3 → lv_has ls 7 [(1, .ref (gB E + a1)), (2, .ref (gB E + a2)), (3, .int x3), (4, .int x4)] → X0_lightLamps_5 f a1 a2 x3 x4 σ = some r → W p l e (RM 5) s m args below meth c H locs 0 0 (QI E below args s r.1 r.2) (F0 m 5 ls []) := by
  intro f
  induction f with
  | zero =>
    intro a1 a2 x3 x4 σ ls H locs X hk_a1 hk_a2 hl h
    rw [X0_lightLamps_5] at h
    cases h
  | succ f ih =>
    intro a1 a2 x3 x4 σ ls H locs X hk_a1 hk_a2 hl h
    rw [X0_lightLamps_5] at h
    refine lv_iload C.1 C.2.1 dX0_lightLamps_5 (lv_at hl 3 rfl) ?_
    refine lv_aload_n C.1 C.2.1 dX0_lightLamps_7 rfl (lv_at hl 0 rfl) ?_
    refine gfX7 C G X (k := a1) hk_a1 1 (v := .int (σ a1 1)) rfl rfl (by decide) k_206 rfl dX0_lightLamps_8 ?_
    refine lv_icmp_ge (tgt := 76) C.1 C.2.1 dX0_lightLamps_11 (by decide) (fun c11 => ?_) (fun c11 => ?_)
    · replace h := ipos c11 h
      refine lv_iload_n C.1 C.2.1 dX0_lightLamps_76 rfl (lv_at hl 2 rfl) ?_
      rw [← Option.some.inj h]
      exact rtI C X dX0_lightLamps_77
    · replace h := ineg c11 h
      refine lv_aload_n C.1 C.2.1 dX0_lightLamps_14 rfl (lv_at hl 0 rfl) ?_
      refine gfX7 C G X (k := a1) hk_a1 13 (v := .ref (gB E + (a1 + 9))) rfl rfl (by decide) k_248 rfl dX0_lightLamps_15 ?_
      refine lv_iload C.1 C.2.1 dX0_lightLamps_18 (lv_at hl 3 rfl) ?_
      obtain ⟨r20, e20, h⟩ := bnd h
      refine afI X (runV C G X q_X6_get k_498 k_499 k_497 (rcX6 G X (kf_2_9 hk_a1)) (c_X6_get l E (kf_2_9 hk_a1) e20) rfl hl.1 rfl (Nat.le_of_ble_eq_true rfl) ⟨Nat.le_of_ble_eq_true rfl, Nat.le_of_ble_eq_true rfl⟩ ⟨Nat.le_of_ble_eq_true rfl, Nat.le_of_ble_eq_true rfl⟩ dX0_lightLamps_20) (fun H locs X => ?_)
      refine lv_istore (lv' := [(5, .int r20), (1, .ref (gB E + a1)), (2, .ref (gB E + a2)), (3, .int x3), (4, .int x4)]) C.1 C.2.1 dX0_lightLamps_23 hl (by decide) rfl (fun ls hl => ?_)
      refine lv_aload_n C.1 C.2.1 dX0_lightLamps_25 rfl (lv_at hl 1 rfl) ?_
      refine lv_iload C.1 C.2.1 dX0_lightLamps_26 (lv_at hl 4 rfl) ?_
      refine lv_iload C.1 C.2.1 dX0_lightLamps_28 (lv_at hl 0 rfl) ?_
      obtain ⟨r30, e30, h⟩ := bnd h
      refine afI X (runV C G X q_X7_likesFor k_526 k_527 k_525 (rcX7 G X hk_a1) (c_X7_likesFor l E hk_a1 e30) rfl hl.1 rfl (Nat.le_of_ble_eq_true rfl) ⟨Nat.le_of_ble_eq_true rfl, Nat.le_of_ble_eq_true rfl⟩ ⟨Nat.le_of_ble_eq_true rfl, Nat.le_of_ble_eq_true rfl⟩ dX0_lightLamps_30) (fun H locs X => ?_)
      refine lv_istore (lv' := [(6, .int r30), (5, .int r20), (1, .ref (gB E + a1)), (2, .ref (gB E + a2)), (3, .int x3), (4, .int x4)]) C.1 C.2.1 dX0_lightLamps_33 hl (by decide) rfl (fun ls hl => ?_)
      refine lv_aload_n C.1 C.2.1 dX0_lightLamps_35 rfl (lv_at hl 3 rfl) ?_
      refine lv_aload_n C.1 C.2.1 dX0_lightLamps_36 rfl (lv_at hl 2 rfl) ?_
      refine lv_iload C.1 C.2.1 dX0_lightLamps_37 (lv_at hl 5 rfl) ?_
      refine lv_iload C.1 C.2.1 dX0_lightLamps_39 (lv_at hl 1 rfl) ?_
      refine lv_iload C.1 C.2.1 dX0_lightLamps_41 (lv_at hl 0 rfl) ?_
      refine lv_aload_n C.1 C.2.1 dX0_lightLamps_43 rfl (lv_at hl 2 rfl) ?_
      refine gfX7 C G X (k := a1) hk_a1 14 (v := .ref (gB E + (a1 + 11))) rfl rfl (by decide) k_253 rfl dX0_lightLamps_44 ?_
      refine lv_iload C.1 C.2.1 dX0_lightLamps_47 (lv_at hl 5 rfl) ?_
      obtain ⟨r49, e49, h⟩ := bnd h
      refine afI X (runV C G X q_X6_get k_498 k_499 k_497 (rcX6 G X (kf_2_11 hk_a1)) (c_X6_get l E (kf_2_11 hk_a1) e49) rfl hl.1 rfl (Nat.le_of_ble_eq_true rfl) ⟨Nat.le_of_ble_eq_true rfl, Nat.le_of_ble_eq_true rfl⟩ ⟨Nat.le_of_ble_eq_true rfl, Nat.le_of_ble_eq_true rfl⟩ dX0_lightLamps_49) (fun H locs X => ?_)
      obtain ⟨r52, σ52, e52, h⟩ := bnd2 h
      refine afI (r0 := r52) (σ' := σ52) X (runV C G X q_X3_letsLight k_534 k_535 k_533 (rcX3 G X hk_a2) (c_X3_letsLight l E hk_a2 hk_a1 e52) rfl hl.1 rfl (Nat.le_of_ble_eq_true rfl) ⟨Nat.le_of_ble_eq_true rfl, Nat.le_of_ble_eq_true rfl⟩ ⟨Nat.le_of_ble_eq_true rfl, Nat.le_of_ble_eq_true rfl⟩ dX0_lightLamps_52) (fun H locs X => ?_)
      refine lv_if_eq (tgt := 70) C.1 C.2.1 dX0_lightLamps_55 (by decide) (fun c55 => ?_) (fun c55 => ?_)
      · replace h := ipos c55 h
        refine lv_iinc (v := (x4 + 1)) (lv' := [(4, .int (x4 + 1)), (6, .int r30), (5, .int r20), (1, .ref (gB E + a1)), (2, .ref (gB E + a2)), (3, .int x3)]) C.1 C.2.1 dX0_lightLamps_70 hl (k := 5) rfl rfl (by decide) rfl (fun ls hl => ?_)
        refine lv_goto (tgt := 5) C.1 C.2.1 dX0_lightLamps_73 (by decide) ?_
        exact ih X hk_a1 hk_a2 (lv_sub hl [3, 4, 5, 0] rfl) h
      · replace h := ineg c55 h
        refine lv_aload_n C.1 C.2.1 dX0_lightLamps_58 rfl (lv_at hl 2 rfl) ?_
        refine lv_iload C.1 C.2.1 dX0_lightLamps_59 (lv_at hl 5 rfl) ?_
        refine lv_iload C.1 C.2.1 dX0_lightLamps_61 (lv_at hl 1 rfl) ?_
        refine lv_iconst (v := 0) C.1 C.2.1 dX0_lightLamps_63 (by decide) ?_
        obtain ⟨σ64, e64, h⟩ := bnd h
        refine afV X (runV C G X q_X7_light k_579 k_580 k_578 (rcX7 G X hk_a1) (c_X7_light l E hk_a1 e64) rfl hl.1 rfl (Nat.le_of_ble_eq_true rfl) ⟨Nat.le_of_ble_eq_true rfl, Nat.le_of_ble_eq_true rfl⟩ ⟨Nat.le_of_ble_eq_true rfl, Nat.le_of_ble_eq_true rfl⟩ dX0_lightLamps_64) (fun H locs X => ?_)
        refine lv_iinc (v := (x3 + 1)) (lv' := [(3, .int (x3 + 1)), (6, .int r30), (5, .int r20), (1, .ref (gB E + a1)), (2, .ref (gB E + a2)), (4, .int x4)]) C.1 C.2.1 dX0_lightLamps_67 hl (k := 4) rfl rfl (by decide) rfl (fun ls hl => ?_)
        refine lv_iinc (v := (x4 + 1)) (lv' := [(4, .int (x4 + 1)), (3, .int (x3 + 1)), (6, .int r30), (5, .int r20), (1, .ref (gB E + a1)), (2, .ref (gB E + a2))]) C.1 C.2.1 dX0_lightLamps_70 hl (k := 5) rfl rfl (by decide) rfl (fun ls hl => ?_)
        refine lv_goto (tgt := 5) C.1 C.2.1 dX0_lightLamps_73 (by decide) ?_
        exact ih X hk_a1 hk_a2 (lv_sub hl [4, 5, 1, 0] rfl) h

set_option maxRecDepth 20000 in
theorem w_X0_lightLamps {r : (Int32 × Mem)} {σ : Mem} {a1 : Nat} {a2 : Nat} {ls : Array Slot} {H : Heap} {locs : List Loc} (C : Cx p s m args meth c cX0_lightLamps (some .int) 7 RX0) (G : Gf E s) (X : Hx E σ s H locs) (hk_a1 : kd a1 = 2) (hk_a2 : kd a2 = 3) (hl : lv_has ls 7 [(0, .ref (gB E + 365)), (1, .ref (gB E + a1)), (2, .ref (gB E + a2))]) (h : X0_lightLamps a1 a2 σ = some r) : W p l e (RM 5) s m args below meth c H locs 0 0 (QI E below args s r.1 r.2) (F0 m 0 ls []) := by
  rw [X0_lightLamps] at h
  refine lv_iconst (v := 0) C.1 C.2.1 dX0_lightLamps_0 (by decide) ?_
  refine lv_istore_n (lv' := [(3, .int (0 : Int32)), (0, .ref (gB E + 365)), (1, .ref (gB E + a1)), (2, .ref (gB E + a2))]) C.1 C.2.1 dX0_lightLamps_1 rfl hl (by decide) rfl (fun ls hl => ?_)
  refine lv_iconst (v := 0) C.1 C.2.1 dX0_lightLamps_2 (by decide) ?_
  refine lv_istore (lv' := [(4, .int (0 : Int32)), (3, .int (0 : Int32)), (0, .ref (gB E + 365)), (1, .ref (gB E + a1)), (2, .ref (gB E + a2))]) C.1 C.2.1 dX0_lightLamps_3 hl (by decide) rfl (fun ls hl => ?_)
  exact w_X0_lightLamps_5 C G FU X hk_a1 hk_a2 (lv_sub hl [3, 4, 1, 0] rfl) h

theorem c_X0_lightLamps (l : Launch) (E : GE) {σ : Mem} {a1 : Nat} {a2 : Nat} (hk_a1 : kd a1 = 2) (hk_a2 : kd a2 = 3) {r : (Int32 × Mem)} (h : X0_lightLamps a1 a2 σ = some r) : CtI l E yX0_lightLamps cX0_lightLamps 7 .int 5 [.ref (gB E + 365), .ref (gB E + a1), .ref (gB E + a2)] σ r.1 r.2 := by
  refine Met.ofW (cc := cX0_lightLamps) (maxL := 7) (ret := (some .int)) (by decide) rfl ?_
  intro p e s m args below meth c s₁ B hml hv
  obtain ⟨rfl, G, X⟩ := start hv
  have C := cxof B hml
  have hl := lv_entry [.ref (gB E + 365), .ref (gB E + a1), .ref (gB E + a2)] (n := 7) (Nat.le_of_ble_eq_true rfl)
  rw [lg_entry_eq]
  generalize (lg_sl [.ref (gB E + 365), .ref (gB E + a1), .ref (gB E + a2)] ++ List.replicate (7 - (lg_sl [.ref (gB E + 365), .ref (gB E + a1), .ref (gB E + a2)]).length) Slot.unset).toArray = ls at hl ⊢
  exact w_X0_lightLamps C G X hk_a1 hk_a2 hl h

set_option maxRecDepth 20000 in
theorem w_X7_burnDown_50 {r : Mem} {σ : Mem} {a0 : Nat} {x1 : Int32} {ls : Array Slot} {H : Heap} {locs : List Loc} (C : Cx p s m args meth c cX7_burnDown none 2 RX7) (G : Gf E s) (X : Hx E σ s H locs) (hk_a0 : kd a0 = 2) (hl : lv_has ls 2 [(0, .ref (gB E + a0)), (1, .int x1)]) (h : X7_burnDown_50 a0 x1 σ = some r) : W p l e (RM 3) s m args below meth c H locs 0 0 (QV E below args s r) (F0 m 50 ls []) := by
  rw [X7_burnDown_50] at h
  refine lv_aload_n C.1 C.2.1 dX7_burnDown_50 rfl (lv_at hl 0 rfl) ?_
  refine lv_iload_n C.1 C.2.1 dX7_burnDown_51 rfl (lv_at hl 1 rfl) ?_
  obtain ⟨r52, e52, h⟩ := bnd h
  refine afI X (runV C G X q_X7_isBurning k_538 k_539 k_600 (rcX7 G X hk_a0) (c_X7_isBurning l E hk_a0 e52) rfl hl.1 rfl (Nat.le_of_ble_eq_true rfl) ⟨Nat.le_of_ble_eq_true rfl, Nat.le_of_ble_eq_true rfl⟩ ⟨Nat.le_of_ble_eq_true rfl, Nat.le_of_ble_eq_true rfl⟩ dX7_burnDown_52) (fun H locs X => ?_)
  refine lv_if_ne (tgt := 81) C.1 C.2.1 dX7_burnDown_55 (by decide) (fun c55 => ?_) (fun c55 => ?_)
  · replace h := ineg c55 h
    rw [← Option.some.inj h]
    exact rtV C X dX7_burnDown_81
  · replace h := ipos c55 h
    refine lv_aload_n C.1 C.2.1 dX7_burnDown_58 rfl (lv_at hl 0 rfl) ?_
    refine gfX7 C G X (k := a0) hk_a0 11 (v := .ref (gB E + (a0 + 5))) rfl rfl (by decide) k_241 rfl dX7_burnDown_59 ?_
    refine lv_iload_n C.1 C.2.1 dX7_burnDown_62 rfl (lv_at hl 1 rfl) ?_
    refine lv_aload_n C.1 C.2.1 dX7_burnDown_63 rfl (lv_at hl 0 rfl) ?_
    refine gfX7 C G X (k := a0) hk_a0 11 (v := .ref (gB E + (a0 + 5))) rfl rfl (by decide) k_241 rfl dX7_burnDown_64 ?_
    refine lv_iload_n C.1 C.2.1 dX7_burnDown_67 rfl (lv_at hl 1 rfl) ?_
    obtain ⟨r68, e68, h⟩ := bnd h
    refine afI X (runV C G X q_X6_get k_498 k_499 k_515 (rcX6 G X (kf_2_5 hk_a0)) (c_X6_get l E (kf_2_5 hk_a0) e68) rfl hl.1 rfl (Nat.le_of_ble_eq_true rfl) ⟨Nat.le_of_ble_eq_true rfl, Nat.le_of_ble_eq_true rfl⟩ ⟨Nat.le_of_ble_eq_true rfl, Nat.le_of_ble_eq_true rfl⟩ dX7_burnDown_68) (fun H locs X => ?_)
    refine lv_iconst (v := 1) C.1 C.2.1 dX7_burnDown_71 (by decide) ?_
    refine lv_iadd C.1 C.2.1 dX7_burnDown_72 ?_
    refine lv_bipush (v := 99) C.1 C.2.1 dX7_burnDown_73 (by decide) ?_
    refine mmin C hl.1 (cells := 0) k_587 ⟨Nat.le_of_ble_eq_true rfl, Nat.le_of_ble_eq_true rfl, Nat.le_of_ble_eq_true rfl, Nat.le_of_ble_eq_true rfl⟩ dX7_burnDown_75 ?_
    obtain ⟨σ78, e78, h⟩ := bnd h
    refine afV X (runV C G X q_X6_set k_451 k_452 k_582 (rcX6 G X (kf_2_5 hk_a0)) (c_X6_set l E (kf_2_5 hk_a0) e78) rfl hl.1 rfl (Nat.le_of_ble_eq_true rfl) ⟨Nat.le_of_ble_eq_true rfl, Nat.le_of_ble_eq_true rfl⟩ ⟨Nat.le_of_ble_eq_true rfl, Nat.le_of_ble_eq_true rfl⟩ dX7_burnDown_78) (fun H locs X => ?_)
    rw [← Option.some.inj h]
    exact rtV C X dX7_burnDown_81

set_option maxRecDepth 20000 in
theorem w_X7_burnDown {r : Mem} {σ : Mem} {a0 : Nat} {x1 : Int32} {ls : Array Slot} {H : Heap} {locs : List Loc} (C : Cx p s m args meth c cX7_burnDown none 2 RX7) (G : Gf E s) (X : Hx E σ s H locs) (hk_a0 : kd a0 = 2) (hl : lv_has ls 2 [(0, .ref (gB E + a0)), (1, .int x1)]) (h : X7_burnDown a0 x1 σ = some r) : W p l e (RM 3) s m args below meth c H locs 0 0 (QV E below args s r) (F0 m 0 ls []) := by
  rw [X7_burnDown] at h
  refine lv_aload_n C.1 C.2.1 dX7_burnDown_0 rfl (lv_at hl 0 rfl) ?_
  refine lv_iload_n C.1 C.2.1 dX7_burnDown_1 rfl (lv_at hl 1 rfl) ?_
  obtain ⟨r2, e2, h⟩ := bnd h
  refine afI X (runV C G X q_X7_isBurning k_538 k_539 k_600 (rcX7 G X hk_a0) (c_X7_isBurning l E hk_a0 e2) rfl hl.1 rfl (Nat.le_of_ble_eq_true rfl) ⟨Nat.le_of_ble_eq_true rfl, Nat.le_of_ble_eq_true rfl⟩ ⟨Nat.le_of_ble_eq_true rfl, Nat.le_of_ble_eq_true rfl⟩ dX7_burnDown_2) (fun H locs X => ?_)
  refine lv_if_eq (tgt := 50) C.1 C.2.1 dX7_burnDown_5 (by decide) (fun c5 => ?_) (fun c5 => ?_)
  · replace h := ipos c5 h
    exact w_X7_burnDown_50 C G X hk_a0 (lv_sub hl [0, 1] rfl) h
  · replace h := ineg c5 h
    refine lv_aload_n C.1 C.2.1 dX7_burnDown_8 rfl (lv_at hl 0 rfl) ?_
    refine gfX7 C G X (k := a0) hk_a0 9 (v := .ref (gB E + (a0 + 1))) rfl rfl (by decide) k_232 rfl dX7_burnDown_9 ?_
    refine lv_iload_n C.1 C.2.1 dX7_burnDown_12 rfl (lv_at hl 1 rfl) ?_
    refine lv_iconst (v := -1) C.1 C.2.1 dX7_burnDown_13 (by decide) ?_
    obtain ⟨σ14, e14, h⟩ := bnd h
    refine afV X (runV C G X q_X6_add k_584 k_585 k_583 (rcX6 G X (kf_2_1 hk_a0)) (c_X6_add l E (kf_2_1 hk_a0) e14) rfl hl.1 rfl (Nat.le_of_ble_eq_true rfl) ⟨Nat.le_of_ble_eq_true rfl, Nat.le_of_ble_eq_true rfl⟩ ⟨Nat.le_of_ble_eq_true rfl, Nat.le_of_ble_eq_true rfl⟩ dX7_burnDown_14) (fun H locs X => ?_)
    refine lv_aload_n C.1 C.2.1 dX7_burnDown_17 rfl (lv_at hl 0 rfl) ?_
    refine gfX7 C G X (k := a0) hk_a0 9 (v := .ref (gB E + (a0 + 1))) rfl rfl (by decide) k_232 rfl dX7_burnDown_18 ?_
    refine lv_iload_n C.1 C.2.1 dX7_burnDown_21 rfl (lv_at hl 1 rfl) ?_
    obtain ⟨r22, e22, h⟩ := bnd h
    refine afI X (runV C G X q_X6_get k_498 k_499 k_515 (rcX6 G X (kf_2_1 hk_a0)) (c_X6_get l E (kf_2_1 hk_a0) e22) rfl hl.1 rfl (Nat.le_of_ble_eq_true rfl) ⟨Nat.le_of_ble_eq_true rfl, Nat.le_of_ble_eq_true rfl⟩ ⟨Nat.le_of_ble_eq_true rfl, Nat.le_of_ble_eq_true rfl⟩ dX7_burnDown_22) (fun H locs X => ?_)
    refine lv_if_gt (tgt := 50) C.1 C.2.1 dX7_burnDown_25 (by decide) (fun c25 => ?_) (fun c25 => ?_)
    · replace h := ipos c25 h
      exact w_X7_burnDown_50 C G X hk_a0 (lv_sub hl [0, 1] rfl) h
    · replace h := ineg c25 h
      refine lv_aload_n C.1 C.2.1 dX7_burnDown_28 rfl (lv_at hl 0 rfl) ?_
      refine lv_dup C.1 C.2.1 dX7_burnDown_29 rfl ?_
      refine gfX7 C G X (k := a0) hk_a0 8 (v := .int (σ14 a0 8)) rfl rfl (by decide) k_229 rfl dX7_burnDown_30 ?_
      refine lv_iload_n C.1 C.2.1 dX7_burnDown_33 rfl (lv_at hl 1 rfl) ?_
      obtain ⟨r34, e34, h⟩ := bnd h
      refine afI X (runN C G X q_X11_bit k_506 nw_8 (c_X11_bit l E e34) rfl hl.1 rfl (Nat.le_of_ble_eq_true rfl) ⟨Nat.le_of_ble_eq_true rfl, Nat.le_of_ble_eq_true rfl⟩ ⟨Nat.le_of_ble_eq_true rfl, Nat.le_of_ble_eq_true rfl⟩ dX7_burnDown_34) (fun H locs X => ?_)
      refine lv_iconst (v := -1) C.1 C.2.1 dX7_burnDown_37 (by decide) ?_
      refine lv_ixor C.1 C.2.1 dX7_burnDown_38 ?_
      refine lv_iand C.1 C.2.1 dX7_burnDown_39 ?_
      obtain ⟨σ40, e40, h⟩ := bnd h
      refine pfX7 C G X (k := a0) hk_a0 8 (x := ((σ14 a0 8) &&& (r34 ^^^ (-1 : Int32)))) (ty := .int) rfl rfl (Nat.le_of_ble_eq_true rfl) (by decide) k_229 rfl rfl (by decide +kernel) rfl rfl dX7_burnDown_40 (fun H locs X => ?_)
      replace X := pu_x e40 X
      refine lv_aload_n C.1 C.2.1 dX7_burnDown_43 rfl (lv_at hl 0 rfl) ?_
      refine lv_iconst (v := 2) C.1 C.2.1 dX7_burnDown_44 (by decide) ?_
      refine lv_iload_n C.1 C.2.1 dX7_burnDown_45 rfl (lv_at hl 1 rfl) ?_
      refine lv_iconst (v := -1) C.1 C.2.1 dX7_burnDown_46 (by decide) ?_
      obtain ⟨σ47, e47, h⟩ := bnd h
      refine afV X (runV C G X q_X7_write k_593 k_594 k_592 (rcX7 G X hk_a0) (c_X7_write l E hk_a0 e47) rfl hl.1 rfl (Nat.le_of_ble_eq_true rfl) ⟨Nat.le_of_ble_eq_true rfl, Nat.le_of_ble_eq_true rfl⟩ ⟨Nat.le_of_ble_eq_true rfl, Nat.le_of_ble_eq_true rfl⟩ dX7_burnDown_47) (fun H locs X => ?_)
      exact w_X7_burnDown_50 C G X hk_a0 (lv_sub hl [0, 1] rfl) h

theorem c_X7_burnDown (l : Launch) (E : GE) {σ : Mem} {a0 : Nat} {x1 : Int32} (hk_a0 : kd a0 = 2) {r : Mem} (h : X7_burnDown a0 x1 σ = some r) : CtV l E yX7_burnDown cX7_burnDown 2 3 [.ref (gB E + a0), .int x1] σ r := by
  refine Met.ofW (cc := cX7_burnDown) (maxL := 2) (ret := none) (by decide) rfl ?_
  intro p e s m args below meth c s₁ B hml hv
  obtain ⟨rfl, G, X⟩ := start hv
  have C := cxof B hml
  have hl := lv_entry [.ref (gB E + a0), .int x1] (n := 2) (Nat.le_of_ble_eq_true rfl)
  rw [lg_entry_eq]
  generalize (lg_sl [.ref (gB E + a0), .int x1] ++ List.replicate (2 - (lg_sl [.ref (gB E + a0), .int x1]).length) Slot.unset).toArray = ls at hl ⊢
  exact w_X7_burnDown C G X hk_a0 hl h

set_option maxRecDepth 20000 in
theorem w_X7_turnHour {r : Mem} {σ : Mem} {a0 : Nat} {ls : Array Slot} {H : Heap} {locs : List Loc} (C : Cx p s m args meth c cX7_turnHour none 1 RX7) (G : Gf E s) (X : Hx E σ s H locs) (hk_a0 : kd a0 = 2) (hl : lv_has ls 1 [(0, .ref (gB E + a0))]) (h : X7_turnHour a0 σ = some r) : W p l e (RM 2) s m args below meth c H locs 0 0 (QV E below args s r) (F0 m 0 ls []) := by
  rw [X7_turnHour] at h
  refine lv_aload_n C.1 C.2.1 dX7_turnHour_0 rfl (lv_at hl 0 rfl) ?_
  refine lv_dup C.1 C.2.1 dX7_turnHour_1 rfl ?_
  refine gfX7 C G X (k := a0) hk_a0 3 (v := .int (σ a0 3)) rfl rfl (by decide) k_211 rfl dX7_turnHour_2 ?_
  refine lv_iconst (v := 1) C.1 C.2.1 dX7_turnHour_5 (by decide) ?_
  refine lv_iadd C.1 C.2.1 dX7_turnHour_6 ?_
  obtain ⟨σ7, e7, h⟩ := bnd h
  refine pfX7 C G X (k := a0) hk_a0 3 (x := ((σ a0 3) + (1 : Int32))) (ty := .int) rfl rfl (Nat.le_of_ble_eq_true rfl) (by decide) k_211 rfl rfl (by decide +kernel) rfl rfl dX7_turnHour_7 (fun H locs X => ?_)
  replace X := pu_x e7 X
  refine lv_aload_n C.1 C.2.1 dX7_turnHour_10 rfl (lv_at hl 0 rfl) ?_
  refine gfX7 C G X (k := a0) hk_a0 3 (v := .int (σ7 a0 3)) rfl rfl (by decide) k_211 rfl dX7_turnHour_11 ?_
  refine lv_bipush (v := 23) C.1 C.2.1 dX7_turnHour_14 (by decide) ?_
  refine lv_icmp_le (tgt := 40) C.1 C.2.1 dX7_turnHour_16 (by decide) (fun c16 => ?_) (fun c16 => ?_)
  · replace h := ipos c16 h
    rw [← Option.some.inj h]
    exact rtV C X dX7_turnHour_40
  · replace h := ineg c16 h
    refine lv_aload_n C.1 C.2.1 dX7_turnHour_19 rfl (lv_at hl 0 rfl) ?_
    refine lv_iconst (v := 0) C.1 C.2.1 dX7_turnHour_20 (by decide) ?_
    obtain ⟨σ21, e21, h⟩ := bnd h
    refine pfX7 C G X (k := a0) hk_a0 3 (x := (0 : Int32)) (ty := .int) rfl rfl (Nat.le_of_ble_eq_true rfl) (by decide) k_211 rfl rfl (by decide +kernel) rfl rfl dX7_turnHour_21 (fun H locs X => ?_)
    replace X := pu_x e21 X
    refine lv_aload_n C.1 C.2.1 dX7_turnHour_24 rfl (lv_at hl 0 rfl) ?_
    refine lv_aload_n C.1 C.2.1 dX7_turnHour_25 rfl (lv_at hl 0 rfl) ?_
    refine gfX7 C G X (k := a0) hk_a0 4 (v := .int (σ21 a0 4)) rfl rfl (by decide) k_215 rfl dX7_turnHour_26 ?_
    refine lv_iconst (v := 1) C.1 C.2.1 dX7_turnHour_29 (by decide) ?_
    refine lv_iadd C.1 C.2.1 dX7_turnHour_30 ?_
    refine lv_sipush (v := 9999) C.1 C.2.1 dX7_turnHour_31 (by decide) ?_
    refine mmin C hl.1 (cells := 0) k_587 ⟨Nat.le_of_ble_eq_true rfl, Nat.le_of_ble_eq_true rfl, Nat.le_of_ble_eq_true rfl, Nat.le_of_ble_eq_true rfl⟩ dX7_turnHour_34 ?_
    obtain ⟨σ37, e37, h⟩ := bnd h
    refine pfX7 C G X (k := a0) hk_a0 4 (x := (if (9999 : Int32) < ((σ21 a0 4) + (1 : Int32)) then (9999 : Int32) else ((σ21 a0 4) + (1 : Int32)))) (ty := .int) rfl rfl (Nat.le_of_ble_eq_true rfl) (by decide) k_215 rfl rfl (by decide +kernel) rfl rfl dX7_turnHour_37 (fun H locs X => ?_)
    replace X := pu_x e37 X
    rw [← Option.some.inj h]
    exact rtV C X dX7_turnHour_40

theorem c_X7_turnHour (l : Launch) (E : GE) {σ : Mem} {a0 : Nat} (hk_a0 : kd a0 = 2) {r : Mem} (h : X7_turnHour a0 σ = some r) : CtV l E yX7_turnHour cX7_turnHour 1 2 [.ref (gB E + a0)] σ r := by
  refine Met.ofW (cc := cX7_turnHour) (maxL := 1) (ret := none) (by decide) rfl ?_
  intro p e s m args below meth c s₁ B hml hv
  obtain ⟨rfl, G, X⟩ := start hv
  have C := cxof B hml
  have hl := lv_entry [.ref (gB E + a0)] (n := 1) (Nat.le_of_ble_eq_true rfl)
  rw [lg_entry_eq]
  generalize (lg_sl [.ref (gB E + a0)] ++ List.replicate (1 - (lg_sl [.ref (gB E + a0)]).length) Slot.unset).toArray = ls at hl ⊢
  exact w_X7_turnHour C G X hk_a0 hl h

set_option maxRecDepth 20000 in
theorem w_X0_tick_50 {r : (Int32 × Mem)} (C : Cx p s m args meth c cX0_tick (some .int) 6 RX0) (G : Gf E s) : ∀ (f : Nat) {a1 : Nat} {x4 : Int32} {x5 : Int32} {σ : Mem} {ls : Array Slot} {H : Heap} {locs : List Loc}, Hx E σ s H locs → kd a1 = 2 → lv_has ls 6 [(1, .ref (gB E + a1)), (4, .int x4), (5, .int x5)] → X0_tick_50 f a1 x4 x5 σ = some r → W p l e (RM 6) s m args below meth c H locs 0 0 (QI E below args s r.1 r.2) (F0 m 50 ls []) := by
  intro f
  induction f with
  | zero =>
    intro a1 x4 x5 σ ls H locs X hk_a1 hl h
    rw [X0_tick_50] at h
    cases h
  | succ f ih =>
    intro a1 x4 x5 σ ls H locs X hk_a1 hl h
    rw [X0_tick_50] at h
    refine lv_iload C.1 C.2.1 dX0_tick_50 (lv_at hl 2 rfl) ?_
    refine lv_aload_n C.1 C.2.1 dX0_tick_52 rfl (lv_at hl 0 rfl) ?_
    refine gfX7 C G X (k := a1) hk_a1 0 (v := .int (σ a1 0)) rfl rfl (by decide) k_200 rfl dX0_tick_53 ?_
    refine lv_icmp_ge (tgt := 71) C.1 C.2.1 dX0_tick_56 (by decide) (fun c56 => ?_) (fun c56 => ?_)
    · replace h := ipos c56 h
      refine lv_aload_n C.1 C.2.1 dX0_tick_71 rfl (lv_at hl 0 rfl) ?_
      obtain ⟨σ72, e72, h⟩ := bnd h
      refine afV X (runV C G X q_X7_turnHour k_602 k_603 k_601 (rcX7 G X hk_a1) (c_X7_turnHour l E hk_a1 e72) rfl hl.1 rfl (Nat.le_of_ble_eq_true rfl) ⟨Nat.le_of_ble_eq_true rfl, Nat.le_of_ble_eq_true rfl⟩ ⟨Nat.le_of_ble_eq_true rfl, Nat.le_of_ble_eq_true rfl⟩ dX0_tick_72) (fun H locs X => ?_)
      refine lv_iload C.1 C.2.1 dX0_tick_75 (lv_at hl 1 rfl) ?_
      rw [← Option.some.inj h]
      exact rtI C X dX0_tick_77
    · replace h := ineg c56 h
      refine lv_aload_n C.1 C.2.1 dX0_tick_59 rfl (lv_at hl 0 rfl) ?_
      refine lv_iload C.1 C.2.1 dX0_tick_60 (lv_at hl 2 rfl) ?_
      obtain ⟨σ62, e62, h⟩ := bnd h
      refine afV X (runV C G X q_X7_burnDown k_597 k_598 k_596 (rcX7 G X hk_a1) (c_X7_burnDown l E hk_a1 e62) rfl hl.1 rfl (Nat.le_of_ble_eq_true rfl) ⟨Nat.le_of_ble_eq_true rfl, Nat.le_of_ble_eq_true rfl⟩ ⟨Nat.le_of_ble_eq_true rfl, Nat.le_of_ble_eq_true rfl⟩ dX0_tick_62) (fun H locs X => ?_)
      refine lv_iinc (v := (x5 + 1)) (lv' := [(5, .int (x5 + 1)), (1, .ref (gB E + a1)), (4, .int x4)]) C.1 C.2.1 dX0_tick_65 hl (k := 2) rfl rfl (by decide) rfl (fun ls hl => ?_)
      refine lv_goto (tgt := 50) C.1 C.2.1 dX0_tick_68 (by decide) ?_
      exact ih X hk_a1 (lv_sub hl [1, 2, 0] rfl) h

set_option maxRecDepth 20000 in
theorem w_X0_tick_39 {r : (Int32 × Mem)} {σ : Mem} {a1 : Nat} {a2 : Nat} {ls : Array Slot} {H : Heap} {locs : List Loc} (C : Cx p s m args meth c cX0_tick (some .int) 6 RX0) (G : Gf E s) (X : Hx E σ s H locs) (hk_a1 : kd a1 = 2) (hk_a2 : kd a2 = 3) (hl : lv_has ls 6 [(0, .ref (gB E + 365)), (1, .ref (gB E + a1)), (2, .ref (gB E + a2))]) (h : X0_tick_39 a1 a2 σ = some r) : W p l e (RM 6) s m args below meth c H locs 0 0 (QI E below args s r.1 r.2) (F0 m 39 ls []) := by
  rw [X0_tick_39] at h
  refine lv_aload_n C.1 C.2.1 dX0_tick_39 rfl (lv_at hl 0 rfl) ?_
  refine lv_aload_n C.1 C.2.1 dX0_tick_40 rfl (lv_at hl 1 rfl) ?_
  refine lv_aload_n C.1 C.2.1 dX0_tick_41 rfl (lv_at hl 2 rfl) ?_
  obtain ⟨r42, σ42, e42, h⟩ := bnd2 h
  refine afI (r0 := r42) (σ' := σ42) X (runV C G X q_X0_lightLamps k_523 kp_1 k_521 (rcX0 G X kd_365) (c_X0_lightLamps l E hk_a1 hk_a2 e42) rfl hl.1 rfl (Nat.le_of_ble_eq_true rfl) ⟨Nat.le_of_ble_eq_true rfl, Nat.le_of_ble_eq_true rfl⟩ ⟨Nat.le_of_ble_eq_true rfl, Nat.le_of_ble_eq_true rfl⟩ dX0_tick_42) (fun H locs X => ?_)
  refine lv_istore (lv' := [(4, .int r42), (0, .ref (gB E + 365)), (1, .ref (gB E + a1)), (2, .ref (gB E + a2))]) C.1 C.2.1 dX0_tick_45 hl (by decide) rfl (fun ls hl => ?_)
  refine lv_iconst (v := 0) C.1 C.2.1 dX0_tick_47 (by decide) ?_
  refine lv_istore (lv' := [(5, .int (0 : Int32)), (4, .int r42), (0, .ref (gB E + 365)), (1, .ref (gB E + a1)), (2, .ref (gB E + a2))]) C.1 C.2.1 dX0_tick_48 hl (by decide) rfl (fun ls hl => ?_)
  exact w_X0_tick_50 C G FU X hk_a1 (lv_sub hl [3, 1, 0] rfl) h

set_option maxRecDepth 20000 in
theorem w_X0_tick_24 {r : (Int32 × Mem)} {σ : Mem} {a1 : Nat} {a2 : Nat} {b0 : Nat} {y1 : Int32} {ls : Array Slot} {H : Heap} {locs : List Loc} (C : Cx p s m args meth c cX0_tick (some .int) 6 RX0) (G : Gf E s) (X : Hx E σ s H locs) (hk_a1 : kd a1 = 2) (hk_a2 : kd a2 = 3) (hk_b0 : kd b0 = 2) (hl : lv_has ls 6 [(0, .ref (gB E + 365)), (1, .ref (gB E + a1)), (2, .ref (gB E + a2))]) (h : X0_tick_24 a1 a2 b0 y1 σ = some r) : W p l e (RM 6) s m args below meth c H locs 0 0 (QI E below args s r.1 r.2) (F0 m 24 ls [.int y1, .ref (gB E + b0)]) := by
  rw [X0_tick_24] at h
  obtain ⟨u24, z24, h⟩ := bnd h
  obtain ⟨σ24, e24, h⟩ := bnd h
  refine pfX7 C G X (k := b0) hk_b0 6 (x := y1) (ty := .boolean) rfl rfl (Nat.le_of_ble_eq_true rfl) (by decide) k_222 rfl rfl (by decide +kernel) (gb_s z24).1 (gb_s z24).2 dX0_tick_24 (fun H locs X => ?_)
  replace X := pu_x e24 X
  refine lv_aload_n C.1 C.2.1 dX0_tick_27 rfl (lv_at hl 1 rfl) ?_
  refine gfX7 C G X (k := a1) hk_a1 6 (v := .int (σ24 a1 6)) rfl rfl (by decide) k_222 rfl dX0_tick_28 ?_
  refine lv_if_ne (tgt := 39) C.1 C.2.1 dX0_tick_31 (by decide) (fun c31 => ?_) (fun c31 => ?_)
  · replace h := ineg c31 h
    exact w_X0_tick_39 C G X hk_a1 hk_a2 (lv_sub hl [0, 1, 2] rfl) h
  · replace h := ipos c31 h
    refine lv_aload_n C.1 C.2.1 dX0_tick_34 rfl (lv_at hl 0 rfl) ?_
    refine lv_aload_n C.1 C.2.1 dX0_tick_35 rfl (lv_at hl 1 rfl) ?_
    obtain ⟨σ36, e36, h⟩ := bnd h
    refine afV X (runV C G X q_X0_walkOn k_495 kp_0 k_493 (rcX0 G X kd_365) (c_X0_walkOn l E hk_a1 e36) rfl hl.1 rfl (Nat.le_of_ble_eq_true rfl) ⟨Nat.le_of_ble_eq_true rfl, Nat.le_of_ble_eq_true rfl⟩ ⟨Nat.le_of_ble_eq_true rfl, Nat.le_of_ble_eq_true rfl⟩ dX0_tick_36) (fun H locs X => ?_)
    exact w_X0_tick_39 C G X hk_a1 hk_a2 (lv_sub hl [0, 1, 2] rfl) h

set_option maxRecDepth 20000 in
theorem w_X0_tick_23 {r : (Int32 × Mem)} {σ : Mem} {a1 : Nat} {a2 : Nat} {b0 : Nat} {ls : Array Slot} {H : Heap} {locs : List Loc} (C : Cx p s m args meth c cX0_tick (some .int) 6 RX0) (G : Gf E s) (X : Hx E σ s H locs) (hk_a1 : kd a1 = 2) (hk_a2 : kd a2 = 3) (hk_b0 : kd b0 = 2) (hl : lv_has ls 6 [(0, .ref (gB E + 365)), (1, .ref (gB E + a1)), (2, .ref (gB E + a2))]) (h : X0_tick_23 a1 a2 b0 σ = some r) : W p l e (RM 6) s m args below meth c H locs 0 0 (QI E below args s r.1 r.2) (F0 m 23 ls [.ref (gB E + b0)]) := by
  rw [X0_tick_23] at h
  refine lv_iconst (v := 0) C.1 C.2.1 dX0_tick_23 (by decide) ?_
  exact w_X0_tick_24 C G X hk_a1 hk_a2 hk_b0 (lv_sub hl [0, 1, 2] rfl) h

set_option maxRecDepth 20000 in
theorem w_X0_tick {r : (Int32 × Mem)} {σ : Mem} {a1 : Nat} {a2 : Nat} {x3 : Int32} {ls : Array Slot} {H : Heap} {locs : List Loc} (C : Cx p s m args meth c cX0_tick (some .int) 6 RX0) (G : Gf E s) (X : Hx E σ s H locs) (hk_a1 : kd a1 = 2) (hk_a2 : kd a2 = 3) (hl : lv_has ls 6 [(0, .ref (gB E + 365)), (1, .ref (gB E + a1)), (2, .ref (gB E + a2)), (3, .int x3)]) (h : X0_tick a1 a2 x3 σ = some r) : W p l e (RM 6) s m args below meth c H locs 0 0 (QI E below args s r.1 r.2) (F0 m 0 ls []) := by
  rw [X0_tick] at h
  refine lv_aload_n C.1 C.2.1 dX0_tick_0 rfl (lv_at hl 1 rfl) ?_
  refine lv_iload_n C.1 C.2.1 dX0_tick_1 rfl (lv_at hl 3 rfl) ?_
  refine lv_if_eq (tgt := 23) C.1 C.2.1 dX0_tick_2 (by decide) (fun c2 => ?_) (fun c2 => ?_)
  · replace h := ipos c2 h
    exact w_X0_tick_23 C G X hk_a1 hk_a2 hk_a1 (lv_sub hl [0, 1, 2] rfl) h
  · replace h := ineg c2 h
    refine lv_aload_n C.1 C.2.1 dX0_tick_5 rfl (lv_at hl 1 rfl) ?_
    obtain ⟨r6, σ6, e6, h⟩ := bnd2 h
    refine afI (r0 := r6) (σ' := σ6) X (runV C G X q_X7_draw k_489 k_490 k_488 (rcX7 G X hk_a1) (c_X7_draw l E hk_a1 e6) rfl hl.1 rfl (Nat.le_of_ble_eq_true rfl) ⟨Nat.le_of_ble_eq_true rfl, Nat.le_of_ble_eq_true rfl⟩ ⟨Nat.le_of_ble_eq_true rfl, Nat.le_of_ble_eq_true rfl⟩ dX0_tick_6) (fun H locs X => ?_)
    refine lv_bipush (v := 100) C.1 C.2.1 dX0_tick_9 (by decide) ?_
    refine lv_irem C.1 C.2.1 dX0_tick_11 (by decide) ?_
    refine lv_aload_n C.1 C.2.1 dX0_tick_12 rfl (lv_at hl 1 rfl) ?_
    refine gfX7 C G X (k := a1) hk_a1 5 (v := .int (σ6 a1 5)) rfl rfl (by decide) k_218 rfl dX0_tick_13 ?_
    refine lv_icmp_ge (tgt := 23) C.1 C.2.1 dX0_tick_16 (by decide) (fun c16 => ?_) (fun c16 => ?_)
    · replace h := ipos c16 h
      exact w_X0_tick_23 C G X hk_a1 hk_a2 hk_a1 (lv_sub hl [0, 1, 2] rfl) h
    · replace h := ineg c16 h
      refine lv_iconst (v := 1) C.1 C.2.1 dX0_tick_19 (by decide) ?_
      refine lv_goto (tgt := 24) C.1 C.2.1 dX0_tick_20 (by decide) ?_
      exact w_X0_tick_24 C G X hk_a1 hk_a2 hk_a1 (lv_sub hl [0, 1, 2] rfl) h

theorem c_X0_tick (l : Launch) (E : GE) {σ : Mem} {a1 : Nat} {a2 : Nat} {x3 : Int32} (hk_a1 : kd a1 = 2) (hk_a2 : kd a2 = 3) {r : (Int32 × Mem)} (h : X0_tick a1 a2 x3 σ = some r) : CtI l E yX0_tick cX0_tick 6 .int 6 [.ref (gB E + 365), .ref (gB E + a1), .ref (gB E + a2), .int x3] σ r.1 r.2 := by
  refine Met.ofW (cc := cX0_tick) (maxL := 6) (ret := (some .int)) (by decide) rfl ?_
  intro p e s m args below meth c s₁ B hml hv
  obtain ⟨rfl, G, X⟩ := start hv
  have C := cxof B hml
  have hl := lv_entry [.ref (gB E + 365), .ref (gB E + a1), .ref (gB E + a2), .int x3] (n := 6) (Nat.le_of_ble_eq_true rfl)
  rw [lg_entry_eq]
  generalize (lg_sl [.ref (gB E + 365), .ref (gB E + a1), .ref (gB E + a2), .int x3] ++ List.replicate (6 - (lg_sl [.ref (gB E + 365), .ref (gB E + a1), .ref (gB E + a2), .int x3]).length) Slot.unset).toArray = ls at hl ⊢
  exact w_X0_tick C G X hk_a1 hk_a2 hl h

set_option maxRecDepth 20000 in
theorem w_X0_firstBurning_11 {r : (Int32 × Mem)} (C : Cx p s m args meth c cX0_firstBurning (some .int) 5 RX0) (G : Gf E s) : ∀ (f : Nat) {a2 : Nat} {x3 : Int32} {x4 : Int32} {σ : Mem} {ls : Array Slot} {H : Heap} {locs : List Loc}, Hx E σ s H locs → kd a2 = 3 → lv_has ls 5 [(0, .ref (gB E + 365)), (2, .ref (gB E + a2)), (3, .int x3), (4, .int x4)] → X0_firstBurning_11 f a2 x3 x4 σ = some r → W p l e (RM 7) s m args below meth c H locs 0 0 (QI E below args s r.1 r.2) (F0 m 11 ls []) := by
  intro f
  induction f with
  | zero =>
    intro a2 x3 x4 σ ls H locs X hk_a2 hl h
    rw [X0_firstBurning_11] at h
    cases h
  | succ f ih =>
    intro a2 x3 x4 σ ls H locs X hk_a2 hl h
    rw [X0_firstBurning_11] at h
    refine lv_iload C.1 C.2.1 dX0_firstBurning_11 (lv_at hl 3 rfl) ?_
    refine lv_bipush (v := 60) C.1 C.2.1 dX0_firstBurning_13 (by decide) ?_
    refine lv_icmp_gt (tgt := 49) C.1 C.2.1 dX0_firstBurning_15 (by decide) (fun c15 => ?_) (fun c15 => ?_)
    · replace h := ipos c15 h
      refine lv_iconst (v := -1) C.1 C.2.1 dX0_firstBurning_49 (by decide) ?_
      rw [← Option.some.inj h]
      exact rtI C X dX0_firstBurning_50
    · replace h := ineg c15 h
      refine lv_aload_n C.1 C.2.1 dX0_firstBurning_18 rfl (lv_at hl 0 rfl) ?_
      refine gfX0 C G X (k := 365) kd_365 0 (v := .ref (gB E + 366)) rfl rfl (by decide) k_368 rfl dX0_firstBurning_19 ?_
      refine lv_iload_n C.1 C.2.1 dX0_firstBurning_22 rfl (lv_at hl 2 rfl) ?_
      obtain ⟨r23, e23, h⟩ := bnd h
      refine afI X (runV C G X q_X7_isBurning k_538 k_539 k_1189 (rcX7 G X kd_366) (c_X7_isBurning l E kd_366 e23) rfl hl.1 rfl (Nat.le_of_ble_eq_true rfl) ⟨Nat.le_of_ble_eq_true rfl, Nat.le_of_ble_eq_true rfl⟩ ⟨Nat.le_of_ble_eq_true rfl, Nat.le_of_ble_eq_true rfl⟩ dX0_firstBurning_23) (fun H locs X => ?_)
      refine lv_if_eq (tgt := 32) C.1 C.2.1 dX0_firstBurning_26 (by decide) (fun c26 => ?_) (fun c26 => ?_)
      · replace h := ipos c26 h
        refine lv_aload_n C.1 C.2.1 dX0_firstBurning_32 rfl (lv_at hl 0 rfl) ?_
        refine lv_aload_n C.1 C.2.1 dX0_firstBurning_33 rfl (lv_at hl 0 rfl) ?_
        refine gfX0 C G X (k := 365) kd_365 0 (v := .ref (gB E + 366)) rfl rfl (by decide) k_368 rfl dX0_firstBurning_34 ?_
        refine lv_aload_n C.1 C.2.1 dX0_firstBurning_37 rfl (lv_at hl 1 rfl) ?_
        refine lv_iconst (v := 0) C.1 C.2.1 dX0_firstBurning_38 (by decide) ?_
        obtain ⟨r39, σ39, e39, h⟩ := bnd2 h
        refine afI (r0 := r39) (σ' := σ39) X (runV C G X q_X0_tick k_485 k_486 k_484 (rcX0 G X kd_365) (c_X0_tick l E kd_366 hk_a2 e39) rfl hl.1 rfl (Nat.le_of_ble_eq_true rfl) ⟨Nat.le_of_ble_eq_true rfl, Nat.le_of_ble_eq_true rfl⟩ ⟨Nat.le_of_ble_eq_true rfl, Nat.le_of_ble_eq_true rfl⟩ dX0_firstBurning_39) (fun H locs X => ?_)
        refine lv_pop C.1 C.2.1 dX0_firstBurning_42 rfl ?_
        refine lv_iinc (v := (x4 + 1)) (lv' := [(4, .int (x4 + 1)), (0, .ref (gB E + 365)), (2, .ref (gB E + a2)), (3, .int x3)]) C.1 C.2.1 dX0_firstBurning_43 hl (k := 3) rfl rfl (by decide) rfl (fun ls hl => ?_)
        refine lv_goto (tgt := 11) C.1 C.2.1 dX0_firstBurning_46 (by decide) ?_
        exact ih X hk_a2 (lv_sub hl [1, 2, 3, 0] rfl) h
      · replace h := ineg c26 h
        refine lv_iload C.1 C.2.1 dX0_firstBurning_29 (lv_at hl 3 rfl) ?_
        rw [← Option.some.inj h]
        exact rtI C X dX0_firstBurning_31

set_option maxRecDepth 20000 in
theorem w_X0_firstBurning {r : (Int32 × Mem)} {σ : Mem} {a1 : Nat} {a2 : Nat} {x3 : Int32} {ls : Array Slot} {H : Heap} {locs : List Loc} (C : Cx p s m args meth c cX0_firstBurning (some .int) 5 RX0) (G : Gf E s) (X : Hx E σ s H locs) (hk_a1 : kd a1 = 2) (hk_a2 : kd a2 = 3) (hl : lv_has ls 5 [(0, .ref (gB E + 365)), (1, .ref (gB E + a1)), (2, .ref (gB E + a2)), (3, .int x3)]) (h : X0_firstBurning a1 a2 x3 σ = some r) : W p l e (RM 7) s m args below meth c H locs 0 0 (QI E below args s r.1 r.2) (F0 m 0 ls []) := by
  rw [X0_firstBurning] at h
  refine lv_aload_n C.1 C.2.1 dX0_firstBurning_0 rfl (lv_at hl 0 rfl) ?_
  refine gfX0 C G X (k := 365) kd_365 0 (v := .ref (gB E + 366)) rfl rfl (by decide) k_368 rfl dX0_firstBurning_1 ?_
  refine lv_aload_n C.1 C.2.1 dX0_firstBurning_4 rfl (lv_at hl 1 rfl) ?_
  obtain ⟨σ5, e5, h⟩ := bnd h
  refine afV X (runV C G X q_X7_copyFrom k_471 k_472 k_470 (rcX7 G X kd_366) (c_X7_copyFrom l E kd_366 hk_a1 e5) rfl hl.1 rfl (Nat.le_of_ble_eq_true rfl) ⟨Nat.le_of_ble_eq_true rfl, Nat.le_of_ble_eq_true rfl⟩ ⟨Nat.le_of_ble_eq_true rfl, Nat.le_of_ble_eq_true rfl⟩ dX0_firstBurning_5) (fun H locs X => ?_)
  refine lv_iconst (v := 0) C.1 C.2.1 dX0_firstBurning_8 (by decide) ?_
  refine lv_istore (lv' := [(4, .int (0 : Int32)), (0, .ref (gB E + 365)), (1, .ref (gB E + a1)), (2, .ref (gB E + a2)), (3, .int x3)]) C.1 C.2.1 dX0_firstBurning_9 hl (by decide) rfl (fun ls hl => ?_)
  exact w_X0_firstBurning_11 C G FU X hk_a2 (lv_sub hl [1, 3, 4, 0] rfl) h

theorem c_X0_firstBurning (l : Launch) (E : GE) {σ : Mem} {a1 : Nat} {a2 : Nat} {x3 : Int32} (hk_a1 : kd a1 = 2) (hk_a2 : kd a2 = 3) {r : (Int32 × Mem)} (h : X0_firstBurning a1 a2 x3 σ = some r) : CtI l E yX0_firstBurning cX0_firstBurning 5 .int 7 [.ref (gB E + 365), .ref (gB E + a1), .ref (gB E + a2), .int x3] σ r.1 r.2 := by
  refine Met.ofW (cc := cX0_firstBurning) (maxL := 5) (ret := (some .int)) (by decide) rfl ?_
  intro p e s m args below meth c s₁ B hml hv
  obtain ⟨rfl, G, X⟩ := start hv
  have C := cxof B hml
  have hl := lv_entry [.ref (gB E + 365), .ref (gB E + a1), .ref (gB E + a2), .int x3] (n := 5) (Nat.le_of_ble_eq_true rfl)
  rw [lg_entry_eq]
  generalize (lg_sl [.ref (gB E + 365), .ref (gB E + a1), .ref (gB E + a2), .int x3] ++ List.replicate (5 - (lg_sl [.ref (gB E + 365), .ref (gB E + a1), .ref (gB E + a2), .int x3]).length) Slot.unset).toArray = ls at hl ⊢
  exact w_X0_firstBurning C G X hk_a1 hk_a2 hl h

end WALK

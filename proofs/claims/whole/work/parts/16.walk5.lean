def X12_ways (x1 : Int32) (x2 : Int32) (x3 : Int32) (σ : Mem) : Option Mem :=
  bd (au σ 400 (((47 : Int32) + ((9 : Int32) * x1)) + x2) x3) fun σ14 =>
  bd (au σ14 400 (((47 : Int32) + ((9 : Int32) * x2)) + x1) x3) fun σ29 =>
  some σ29
def X12_isPane (σ : Mem) (x1 : Int32) : Option Int32 :=
  bd (ag σ 400 (3 : Int32)) fun r7 =>
  bd (X12_isIn σ x1 (0 : Int32) (r7 - (1 : Int32))) fun r10 =>
  bd (gb r10) fun _ =>
  some (r10)
def X12_isWalker (σ : Mem) (x1 : Int32) : Option Int32 :=
  bd (ag σ 400 (4 : Int32)) fun r7 =>
  bd (X12_isIn σ x1 (0 : Int32) (r7 - (1 : Int32))) fun r10 =>
  bd (gb r10) fun _ =>
  some (r10)
def X12_allPanes (σ : Mem) : Option Int32 :=
  bd (ag σ 400 (3 : Int32)) fun r6 =>
  some ((((1 : Int32) <<< (r6 &&& 31)) - (1 : Int32)))
def X12_nextTo_17 (σ : Mem) (rc4 : Int32 → Int32 → Int32 → Option Int32) : Nat → Int32 → Int32 → Int32 → Int32 → Option Int32
  | 0, _, _, _, _ => none
  | f + 1, x1, x2, x3, x4 =>
    bd (ag σ 400 (3 : Int32)) fun r24 =>
    if r24 ≤ x4 then
      rc4 x1 x2 (x3 + 1)
    else
      bd (X12_isOf σ x1 x3) fun r30 =>
      if r30 = 0 then
        X12_nextTo_17 σ rc4 f x1 x2 x3 (x4 + 1)
      else
        bd (X12_isWay σ x3 x4) fun r40 =>
        if r40 = 0 then
          X12_nextTo_17 σ rc4 f x1 x2 x3 (x4 + 1)
        else
          X12_nextTo_17 σ rc4 f x1 (x2 ||| ((1 : Int32) <<< (x4 &&& 31))) x3 (x4 + 1)
def X12_nextTo_4 (σ : Mem) : Nat → Int32 → Int32 → Int32 → Option Int32
  | 0, _, _, _ => none
  | f + 1, x1, x2, x3 =>
    bd (ag σ 400 (3 : Int32)) fun r10 =>
    if r10 ≤ x3 then
      some (x2)
    else
      X12_nextTo_17 σ (X12_nextTo_4 σ f) FU x1 x2 x3 (0 : Int32)
def X12_nextTo (σ : Mem) (x1 : Int32) : Option Int32 :=
  X12_nextTo_4 σ FU x1 (0 : Int32) (0 : Int32)
def X12_farOf_7 (σ : Mem) : Nat → Int32 → Int32 → Int32 → Option Int32
  | 0, _, _, _ => none
  | f + 1, x2, x3, x4 =>
    if (9 : Int32) ≤ x4 then
      some ((-1 : Int32))
    else
      bd (X12_isOf σ x3 x2) fun r16 =>
      if r16 = 0 then
        bd (X12_nextTo σ x3) fun r28 =>
        X12_farOf_7 σ f x2 (x3 ||| r28) (x4 + 1)
      else
        some (x4)
def X12_farOf (σ : Mem) (x1 : Int32) (x2 : Int32) : Option Int32 :=
  X12_farOf_7 σ FU x2 ((1 : Int32) <<< (x1 &&& 31)) (0 : Int32)
def X12_feed_76 (rc23 : Int32 → Int32 → Int32 → Int32 → Int32 → Int32 → Mem → Option (Int32 × Mem)) (x1 : Int32) (x2 : Int32) (x3 : Int32) (x4 : Int32) (x5 : Int32) (x6 : Int32) (y0 : Int32) (σ : Mem) : Option (Int32 × Mem) :=
  bd (au σ 404 (σ 399 8) (((y0.toUInt32 >>> (((24 : Int32) - ((8 : Int32) * (x6 - x6 / (4 : Int32) * (4 : Int32)))).toUInt32 &&& Int32.toUInt32 31)).toInt32) &&& (255 : Int32))) fun σ103 =>
  bd (pu σ103 399 8 ((σ103 399 8) + (1 : Int32))) fun σ111 =>
  rc23 x1 x2 x3 x4 x5 (x6 + 1) σ111
def X12_feed_23 : Nat → Int32 → Int32 → Int32 → Int32 → Int32 → Int32 → Mem → Option (Int32 × Mem)
  | 0, _, _, _, _, _, _, _ => none
  | f + 1, x1, x2, x3, x4, x5, x6, σ =>
    if (20 : Int32) ≤ x6 then
      some ((σ 399 8), σ)
    else
      if (4 : Int32) ≤ x6 then
        if (8 : Int32) ≤ x6 then
          if (12 : Int32) ≤ x6 then
            if (16 : Int32) ≤ x6 then
              X12_feed_76 (X12_feed_23 f) x1 x2 x3 x4 x5 x6 x5 σ
            else
              X12_feed_76 (X12_feed_23 f) x1 x2 x3 x4 x5 x6 x4 σ
          else
            X12_feed_76 (X12_feed_23 f) x1 x2 x3 x4 x5 x6 x3 σ
        else
          X12_feed_76 (X12_feed_23 f) x1 x2 x3 x4 x5 x6 x2 σ
      else
        X12_feed_76 (X12_feed_23 f) x1 x2 x3 x4 x5 x6 x1 σ
def X12_feed (x1 : Int32) (x2 : Int32) (x3 : Int32) (x4 : Int32) (x5 : Int32) (σ : Mem) : Option (Int32 × Mem) :=
  bd (pu σ 399 0 (0 : Int32)) fun σ2 =>
  if ((σ2 399 8) + (20 : Int32)) ≤ (400 : Int32) then
    X12_feed_23 FU x1 x2 x3 x4 x5 (0 : Int32) σ2
  else
    some ((-1 : Int32), σ2)
def X12_end (x1 : Int32) (σ : Mem) : Option (Int32 × Mem) :=
  bd (pu σ 399 0 (0 : Int32)) fun σ2 =>
  bd (X12_isIn σ2 x1 (0 : Int32) (σ2 399 8)) fun r11 =>
  if r11 = 0 then
    bd (gb (0 : Int32)) fun _ =>
    some ((0 : Int32), σ2)
  else
    bd (pu σ2 399 8 x1) fun σ21 =>
    bd (gb (1 : Int32)) fun _ =>
    some ((1 : Int32), σ21)
def X12_letter (σ : Mem) (x1 : Int32) : Option Int32 :=
  if (σ 399 9) = (-1 : Int32) then
    bd (ag σ 404 x1) fun r13 =>
    some (r13)
  else
    bd (ag σ 400 ((σ 399 9) + x1)) fun r27 =>
    some (r27)
def X12_skip_0 : Nat → Mem → Option Mem
  | 0, _ => none
  | f + 1, σ =>
    if (σ 399 10) ≤ (σ 399 11) then
      some σ
    else
      bd (X12_letter σ (σ 399 11)) fun r16 =>
      if r16 = (32 : Int32) then
        bd (pu σ 399 11 ((σ 399 11) + (1 : Int32))) fun σ31 =>
        X12_skip_0 f σ31
      else
        some σ
def X12_skip (σ : Mem) : Option Mem := X12_skip_0 FU σ
def X12_isSign (x1 : Int32) (σ : Mem) : Option (Int32 × Mem) :=
  bd (X12_skip σ) fun σ1 =>
  if (σ1 399 10) ≤ (σ1 399 11) then
    bd (gb (0 : Int32)) fun _ =>
    some ((0 : Int32), σ1)
  else
    bd (X12_letter σ1 (σ1 399 11)) fun r20 =>
    if r20 = x1 then
      bd (gb (1 : Int32)) fun _ =>
      some ((1 : Int32), σ1)
    else
      bd (gb (0 : Int32)) fun _ =>
      some ((0 : Int32), σ1)
def X12_has_55 : Nat → Nat → Int32 → Int32 → Mem → Option (Int32 × Mem)
  | 0, _, _, _, _ => none
  | f + 1, s1, x2, x3, σ =>
    bd (gs s1) fun _ =>
    bd (slen σ s1) fun r57 =>
    if r57 ≤ x3 then
      bd (pu σ 399 11 x2) fun σ91 =>
      bd (gb (1 : Int32)) fun _ =>
      some ((1 : Int32), σ91)
    else
      bd (X12_letter σ ((σ 399 11) + x3)) fun r70 =>
      bd (gs s1) fun _ =>
      bd (scha σ s1 x3) fun r75 =>
      if r70 = r75 then
        X12_has_55 f s1 x2 (x3 + 1) σ
      else
        bd (gb (0 : Int32)) fun _ =>
        some ((0 : Int32), σ)
def X12_has_38 (s1 : Nat) (x2 : Int32) (σ : Mem) : Option (Int32 × Mem) :=
  bd (gs s1) fun _ =>
  bd (slen σ s1) fun r45 =>
  if (x2 - (σ 399 11)) = r45 then
    X12_has_55 FU s1 x2 (0 : Int32) σ
  else
    bd (gb (0 : Int32)) fun _ =>
    some ((0 : Int32), σ)
def X12_has_9 : Nat → Nat → Int32 → Mem → Option (Int32 × Mem)
  | 0, _, _, _ => none
  | f + 1, s1, x2, σ =>
    if (σ 399 10) ≤ x2 then
      X12_has_38 s1 x2 σ
    else
      bd (X12_letter σ x2) fun r19 =>
      bd (X12_isIn σ r19 (97 : Int32) (122 : Int32)) fun r26 =>
      if r26 = 0 then
        X12_has_38 s1 x2 σ
      else
        X12_has_9 f s1 (x2 + 1) σ
def X12_has (s1 : Nat) (σ : Mem) : Option (Int32 × Mem) :=
  bd (X12_skip σ) fun σ1 =>
  X12_has_9 FU s1 (σ1 399 11) σ1
def X12_wrong (x1 : Int32) (σ : Mem) : Option Mem :=
  if (σ 399 12) = (-1 : Int32) then
    bd (pu σ 399 12 x1) fun σ10 =>
    some σ10
  else
    some σ
def X12_here (σ : Mem) : Option (Int32 × Mem) :=
  bd (X12_skip σ) fun σ1 =>
  some ((σ1 399 11), σ1)
def X12_figures_119 (x3 : Int32) (x4 : Int32) (σ : Mem) : Option (Int32 × Mem) :=
  bd (X12_wrong x3 σ) fun σ121 =>
  some (x4, σ121)
def X12_figures_89 (x1 : Int32) (x2 : Int32) (x3 : Int32) (x4 : Int32) (σ : Mem) : Option (Int32 × Mem) :=
  if (σ 399 11) = x3 then
    X12_figures_119 x3 x4 σ
  else
    if (3 : Int32) < ((σ 399 11) - x3) then
      X12_figures_119 x3 x4 σ
    else
      if x4 < x1 then
        X12_figures_119 x3 x4 σ
      else
        if x4 ≤ x2 then
          some (x4, σ)
        else
          X12_figures_119 x3 x4 σ
def X12_figures_18 : Nat → Int32 → Int32 → Int32 → Int32 → Mem → Option (Int32 × Mem)
  | 0, _, _, _, _, _ => none
  | f + 1, x1, x2, x3, x4, σ =>
    if (σ 399 10) ≤ (σ 399 11) then
      X12_figures_89 x1 x2 x3 x4 σ
    else
      bd (X12_letter σ (σ 399 11)) fun r34 =>
      bd (X12_isIn σ r34 (48 : Int32) (57 : Int32)) fun r41 =>
      if r41 = 0 then
        X12_figures_89 x1 x2 x3 x4 σ
      else
        if (3 : Int32) < ((σ 399 11) - x3) then
          X12_figures_89 x1 x2 x3 x4 σ
        else
          bd (X12_letter σ (σ 399 11)) fun r67 =>
          bd (pu σ 399 11 ((σ 399 11) + (1 : Int32))) fun σ83 =>
          X12_figures_18 f x1 x2 x3 ((((10 : Int32) * x4) + r67) - (48 : Int32)) σ83
def X12_figures (x1 : Int32) (x2 : Int32) (σ : Mem) : Option (Int32 × Mem) :=
  if (σ 399 12) = (-1 : Int32) then
    bd2 (X12_here σ) fun r11 σ11 =>
    X12_figures_18 FU x1 x2 r11 (0 : Int32) σ11
  else
    some ((0 : Int32), σ)
def X12_after_24 (x2 : Int32) (x3 : Int32) (σ : Mem) : Option (Int32 × Mem) :=
  bd2 (X12_figures x2 x3 σ) fun r27 σ27 =>
  some (r27, σ27)
def X12_after (s1 : Nat) (x2 : Int32) (x3 : Int32) (σ : Mem) : Option (Int32 × Mem) :=
  if (σ 399 12) = (-1 : Int32) then
    bd2 (X12_has s1 σ) fun r10 σ10 =>
    if r10 = 0 then
      bd (X12_wrong (σ10 399 11) σ10) fun σ21 =>
      X12_after_24 x2 x3 σ21
    else
      X12_after_24 x2 x3 σ10
  else
    X12_after_24 x2 x3 σ
def X12_paneLine_158 : Nat → Int32 → Int32 → Mem → Option Mem
  | 0, _, _, _ => none
  | f + 1, x5, x6, σ =>
    if (9 : Int32) ≤ x6 then
      bd (ag σ 400 (3 : Int32)) fun r186 =>
      bd (au σ 400 (3 : Int32) (r186 + (1 : Int32))) fun σ189 =>
      some σ189
    else
      bd (X12_ways x5 x6 (0 : Int32) σ) fun σ171 =>
      X12_paneLine_158 f x5 (x6 + 1) σ171
def X12_paneLine_136 (x5 : Int32) (y1 : Int32) (y2 : Int32) (y3 : Int32) (σ : Mem) : Option Mem :=
  bd (X12_lays y1 y2 y3 σ) fun σ136 =>
  bd (X12_lays x5 (2 : Int32) (-1 : Int32) σ136) fun σ144 =>
  bd (X12_lays x5 (3 : Int32) (0 : Int32) σ144) fun σ152 =>
  X12_paneLine_158 FU x5 (0 : Int32) σ152
def X12_paneLine_97 (x2 : Int32) (x4 : Int32) (σ : Mem) : Option Mem :=
  if (σ 399 12) = (-1 : Int32) then
    bd (ag σ 400 (3 : Int32)) fun r111 =>
    bd (X12_lays r111 (0 : Int32) x2 σ) fun σ119 =>
    if x4 = 0 then
      X12_paneLine_136 r111 r111 (1 : Int32) (0 : Int32) σ119
    else
      X12_paneLine_136 r111 r111 (1 : Int32) (1 : Int32) σ119
  else
    some σ
def X12_paneLine_73 (x2 : Int32) (x3 : Int32) (y0 : Int32) (σ : Mem) : Option Mem :=
  if (σ 399 12) = (-1 : Int32) then
    if y0 = 0 then
      X12_paneLine_97 x2 y0 σ
    else
      if x2 = 0 then
        bd (X12_wrong x3 σ) fun σ94 =>
        X12_paneLine_97 x2 y0 σ94
      else
        X12_paneLine_97 x2 y0 σ
  else
    X12_paneLine_97 x2 y0 σ
def X12_paneLine_72 (x2 : Int32) (x3 : Int32) (σ : Mem) : Option Mem :=
  X12_paneLine_73 x2 x3 (0 : Int32) σ
def X12_paneLine_45 (y0 : Int32) (σ : Mem) : Option Mem :=
  bd2 (X12_here σ) fun r47 σ47 =>
  if (σ47 399 12) = (-1 : Int32) then
    bd2 (X12_has 16 σ47) fun r62 σ62 =>
    if r62 = 0 then
      X12_paneLine_72 y0 r47 σ62
    else
      X12_paneLine_73 y0 r47 (1 : Int32) σ62
  else
    X12_paneLine_72 y0 r47 σ47
def X12_paneLine_43 (σ : Mem) : Option Mem :=
  X12_paneLine_45 (20 : Int32) σ
def X12_paneLine_16 (σ : Mem) : Option Mem :=
  if (σ 399 12) = (-1 : Int32) then
    bd2 (X12_has 9 σ) fun r27 σ27 =>
    if r27 = 0 then
      X12_paneLine_43 σ27
    else
      bd2 (X12_figures (0 : Int32) (99 : Int32) σ27) fun r37 σ37 =>
      X12_paneLine_45 r37 σ37
  else
    X12_paneLine_43 σ
def X12_paneLine (x1 : Int32) (σ : Mem) : Option Mem :=
  bd (ag σ 400 (3 : Int32)) fun r5 =>
  if r5 = (9 : Int32) then
    bd (X12_wrong x1 σ) fun σ13 =>
    X12_paneLine_16 σ13
  else
    X12_paneLine_16 σ
def X12_walkerLine_244 : Nat → Int32 → Int32 → Mem → Option Mem
  | 0, _, _, _ => none
  | f + 1, x6, x7, σ =>
    if (6 : Int32) ≤ x7 then
      bd (ag σ 400 (4 : Int32)) fun r299 =>
      bd (au σ 400 (4 : Int32) (r299 + (1 : Int32))) fun σ302 =>
      some σ302
    else
      bd (au σ 400 (((152 : Int32) + ((6 : Int32) * x6)) + x7) (5 : Int32)) fun σ268 =>
      bd (au σ268 400 (((152 : Int32) + ((6 : Int32) * x7)) + x6) (5 : Int32)) fun σ286 =>
      X12_walkerLine_244 f x6 (x7 + 1) σ286
def X12_walkerLine_241 (x6 : Int32) (σ : Mem) : Option Mem :=
  X12_walkerLine_244 FU x6 (0 : Int32) σ
def X12_walkerLine_142 (x2 : Int32) (x3 : Int32) (x4 : Int32) (y0 : Int32) (σ : Mem) : Option Mem :=
  if (σ 399 12) = (-1 : Int32) then
    bd (ag σ 400 (4 : Int32)) fun r158 =>
    bd (au σ 400 (((128 : Int32) + ((4 : Int32) * r158)) + (0 : Int32)) x2) fun σ176 =>
    bd (au σ176 400 (((128 : Int32) + ((4 : Int32) * r158)) + (1 : Int32)) x3) fun σ192 =>
    bd (au σ192 400 (((128 : Int32) + ((4 : Int32) * r158)) + (2 : Int32)) y0) fun σ209 =>
    bd (au σ209 400 (((128 : Int32) + ((4 : Int32) * r158)) + (3 : Int32)) (0 : Int32)) fun σ225 =>
    if x4 = (-1 : Int32) then
      X12_walkerLine_241 r158 σ225
    else
      bd (X12_lays x4 (2 : Int32) r158 σ225) fun σ238 =>
      X12_walkerLine_241 r158 σ238
  else
    some σ
def X12_walkerLine_141 (x2 : Int32) (x3 : Int32) (x4 : Int32) (σ : Mem) : Option Mem :=
  X12_walkerLine_142 x2 x3 x4 (-1 : Int32) σ
def X12_walkerLine_108 (x2 : Int32) (x3 : Int32) (x4 : Int32) (σ : Mem) : Option Mem :=
  if (σ 399 12) = (-1 : Int32) then
    bd2 (X12_has 19 σ) fun r119 σ119 =>
    if r119 = 0 then
      X12_walkerLine_141 x2 x3 x4 σ119
    else
      bd (ag σ119 400 (3 : Int32)) fun r132 =>
      bd2 (X12_figures (0 : Int32) (r132 - (1 : Int32)) σ119) fun r135 σ135 =>
      X12_walkerLine_142 x2 x3 x4 r135 σ135
  else
    X12_walkerLine_141 x2 x3 x4 σ
def X12_walkerLine_16 (σ : Mem) : Option Mem :=
  bd (ag σ 400 (3 : Int32)) fun r25 =>
  bd2 (X12_after 17 (0 : Int32) (r25 - (1 : Int32)) σ) fun r28 σ28 =>
  bd2 (X12_after 11 (0 : Int32) (99 : Int32) σ28) fun r38 σ38 =>
  if (σ38 399 12) = (-1 : Int32) then
    bd2 (X12_has 18 σ38) fun r56 σ56 =>
    if r56 = 0 then
      X12_walkerLine_108 r28 r38 (-1 : Int32) σ56
    else
      bd2 (X12_here σ56) fun r63 σ63 =>
      bd (ag σ63 400 (3 : Int32)) fun r75 =>
      bd2 (X12_figures (0 : Int32) (r75 - (1 : Int32)) σ63) fun r78 σ78 =>
      if (σ78 399 12) = (-1 : Int32) then
        bd (X12_of σ78 r78 (2 : Int32)) fun r95 =>
        if r95 = (-1 : Int32) then
          X12_walkerLine_108 r28 r38 r78 σ78
        else
          bd (X12_wrong r63 σ78) fun σ105 =>
          X12_walkerLine_108 r28 r38 r78 σ105
      else
        X12_walkerLine_108 r28 r38 r78 σ78
  else
    X12_walkerLine_108 r28 r38 (-1 : Int32) σ38
def X12_walkerLine (x1 : Int32) (σ : Mem) : Option Mem :=
  bd (ag σ 400 (4 : Int32)) fun r5 =>
  if r5 = (6 : Int32) then
    bd (X12_wrong x1 σ) fun σ13 =>
    X12_walkerLine_16 σ13
  else
    X12_walkerLine_16 σ
def X12_wayLine_51 (x1 : Int32) (x3 : Int32) (σ : Mem) : Option Mem :=
  if (σ 399 12) = (-1 : Int32) then
    bd (X12_ways x1 x3 (1 : Int32) σ) fun σ63 =>
    some σ63
  else
    some σ
def X12_wayLine (σ : Mem) : Option Mem :=
  bd (ag σ 400 (3 : Int32)) fun r7 =>
  bd2 (X12_figures (0 : Int32) (r7 - (1 : Int32)) σ) fun r10 σ10 =>
  bd2 (X12_here σ10) fun r15 σ15 =>
  bd (ag σ15 400 (3 : Int32)) fun r26 =>
  bd2 (X12_figures (0 : Int32) (r26 - (1 : Int32)) σ15) fun r29 σ29 =>
  if (σ29 399 12) = (-1 : Int32) then
    if r10 = r29 then
      bd (X12_wrong r15 σ29) fun σ48 =>
      X12_wayLine_51 r10 r29 σ48
    else
      X12_wayLine_51 r10 r29 σ29
  else
    X12_wayLine_51 r10 r29 σ29
def X12_likesLine_51 (x1 : Int32) (x3 : Int32) (σ : Mem) : Option Mem :=
  bd2 (X12_figures (0 : Int32) (9 : Int32) σ) fun r55 σ55 =>
  if (σ55 399 12) = (-1 : Int32) then
    bd (au σ55 400 (((152 : Int32) + ((6 : Int32) * x1)) + x3) r55) fun σ84 =>
    some σ84
  else
    some σ55
def X12_likesLine (σ : Mem) : Option Mem :=
  bd (ag σ 400 (4 : Int32)) fun r7 =>
  bd2 (X12_figures (0 : Int32) (r7 - (1 : Int32)) σ) fun r10 σ10 =>
  bd2 (X12_here σ10) fun r15 σ15 =>
  bd (ag σ15 400 (4 : Int32)) fun r26 =>
  bd2 (X12_figures (0 : Int32) (r26 - (1 : Int32)) σ15) fun r29 σ29 =>
  if (σ29 399 12) = (-1 : Int32) then
    if r10 = r29 then
      bd (X12_wrong r15 σ29) fun σ48 =>
      X12_likesLine_51 r10 r29 σ48
    else
      X12_likesLine_51 r10 r29 σ29
  else
    X12_likesLine_51 r10 r29 σ29
def X12_tells (x1 : Int32) (x2 : Int32) (x3 : Int32) (σ : Mem) : Option Mem :=
  bd2 (X12_figures x2 x3 σ) fun r3 σ3 =>
  if (σ3 399 12) = (-1 : Int32) then
    bd (au σ3 400 x1 r3) fun σ23 =>
    some σ23
  else
    some σ3
def X12_streetLine (σ : Mem) : Option Mem :=
  bd2 (X12_here σ) fun r1 σ1 =>
  bd2 (X12_has 7 σ1) fun r8 σ8 =>
  if r8 = 0 then
    bd2 (X12_has 8 σ8) fun r25 σ25 =>
    if r25 = 0 then
      bd2 (X12_has 20 σ25) fun r42 σ42 =>
      if r42 = 0 then
        bd2 (X12_has 12 σ42) fun r58 σ58 =>
        if r58 = 0 then
          bd2 (X12_has 21 σ58) fun r74 σ74 =>
          if r74 = 0 then
            bd2 (X12_has 13 σ74) fun r95 σ95 =>
            if r95 = 0 then
              bd2 (X12_has 22 σ95) fun r115 σ115 =>
              if r115 = 0 then
                bd (X12_wrong (σ115 399 11) σ115) fun σ139 =>
                some σ139
              else
                bd (X12_tells (6 : Int32) (0 : Int32) (999 : Int32) σ115) fun σ128 =>
                some σ128
            else
              bd (X12_tells (5 : Int32) (0 : Int32) (23 : Int32) σ95) fun σ106 =>
              some σ106
          else
            bd (X12_tells (7 : Int32) (0 : Int32) (100 : Int32) σ74) fun σ86 =>
            some σ86
        else
          bd (X12_likesLine σ58) fun σ65 =>
          some σ65
      else
        bd (X12_wayLine σ42) fun σ49 =>
        some σ49
    else
      bd (X12_walkerLine r1 σ25) fun σ33 =>
      some σ33
  else
    bd (X12_paneLine r1 σ8) fun σ16 =>
    some σ16
def X12_begins (σ : Mem) : Option Mem :=
  bd (pu σ 399 12 (-1 : Int32)) fun σ2 =>
  bd (pu σ2 399 9 (-1 : Int32)) fun σ7 =>
  bd (pu σ7 399 10 (σ7 399 8)) fun σ15 =>
  bd (pu σ15 399 8 (0 : Int32)) fun σ20 =>
  bd (pu σ20 399 11 (0 : Int32)) fun σ25 =>
  bd (pu σ25 399 13 (0 : Int32)) fun σ30 =>
  some σ30
def X12_part_145 (y0 : Int32) (σ : Mem) : Option (Int32 × Mem) :=
  if y0 = (-1 : Int32) then
    bd (X12_wrong (σ 399 11) σ) fun σ156 =>
    some ((0 : Int32), σ156)
  else
    bd (ag σ 405 y0) fun r166 =>
    some (r166, σ)
def X12_part_52 (σ : Mem) : Option (Int32 × Mem) :=
  bd2 (X12_has 8 σ) fun r55 σ55 =>
  if r55 = 0 then
    bd2 (X12_has 7 σ55) fun r68 σ68 =>
    if r68 = 0 then
      bd2 (X12_has 9 σ68) fun r81 σ81 =>
      if r81 = 0 then
        bd2 (X12_has 10 σ81) fun r94 σ94 =>
        if r94 = 0 then
          bd2 (X12_has 11 σ94) fun r107 σ107 =>
          if r107 = 0 then
            bd2 (X12_has 12 σ107) fun r120 σ120 =>
            if r120 = 0 then
              bd2 (X12_has 13 σ120) fun r133 σ133 =>
              if r133 = 0 then
                X12_part_145 (-1 : Int32) σ133
              else
                X12_part_145 (6 : Int32) σ133
            else
              X12_part_145 (5 : Int32) σ120
          else
            X12_part_145 (4 : Int32) σ107
        else
          X12_part_145 (3 : Int32) σ94
      else
        X12_part_145 (2 : Int32) σ81
    else
      X12_part_145 (1 : Int32) σ68
  else
    X12_part_145 (0 : Int32) σ55
def X12_part (σ : Mem) : Option (Int32 × Mem) :=
  if (σ 399 12) = (-1 : Int32) then
    bd (X12_skip σ) fun σ11 =>
    if (σ11 399 10) ≤ (σ11 399 11) then
      X12_part_52 σ11
    else
      bd (X12_letter σ11 (σ11 399 11)) fun r30 =>
      bd (X12_isIn σ11 r30 (48 : Int32) (57 : Int32)) fun r37 =>
      if r37 = 0 then
        X12_part_52 σ11
      else
        bd2 (X12_figures (0 : Int32) (999 : Int32) σ11) fun r48 σ48 =>
        some (r48, σ48)
  else
    some ((0 : Int32), σ)
def X12_sum_5 : Nat → Int32 → Mem → Option (Int32 × Mem)
  | 0, _, _ => none
  | f + 1, x1, σ =>
    if (σ 399 12) = (-1 : Int32) then
      bd2 (X12_isSign (43 : Int32) σ) fun r16 σ16 =>
      if r16 = 0 then
        some (x1, σ16)
      else
        bd (pu σ16 399 11 ((σ16 399 11) + (1 : Int32))) fun σ29 =>
        bd2 (X12_part σ29) fun r34 σ34 =>
        X12_sum_5 f (x1 + r34) σ34
    else
      some (x1, σ)
def X12_sum (σ : Mem) : Option (Int32 × Mem) :=
  bd2 (X12_part σ) fun r1 σ1 =>
  X12_sum_5 FU r1 σ1
def X12_plain_85 (x1 : Int32) (x2 : Int32) (σ : Mem) : Option (Int32 × Mem) :=
  bd (pu σ 399 11 ((σ 399 11) + (1 : Int32))) fun σ92 =>
  bd2 (X12_sum σ92) fun r96 σ96 =>
  if x2 = 0 then
    if x1 ≤ r96 then
      bd (gb (0 : Int32)) fun _ =>
      some ((0 : Int32), σ96)
    else
      bd (gb (1 : Int32)) fun _ =>
      some ((1 : Int32), σ96)
  else
    if r96 ≤ x1 then
      bd (gb (0 : Int32)) fun _ =>
      some ((0 : Int32), σ96)
    else
      bd (gb (1 : Int32)) fun _ =>
      some ((1 : Int32), σ96)
def X12_plain (σ : Mem) : Option (Int32 × Mem) :=
  bd2 (X12_has 14 σ) fun r3 σ3 =>
  if r3 = 0 then
    bd2 (X12_has 15 σ3) fun r17 σ17 =>
    if r17 = 0 then
      bd2 (X12_sum σ17) fun r41 σ41 =>
      if (σ41 399 12) = (-1 : Int32) then
        bd2 (X12_isSign (60 : Int32) σ41) fun r58 σ58 =>
        if r58 = 0 then
          bd2 (X12_isSign (62 : Int32) σ58) fun r69 σ69 =>
          if r69 = 0 then
            bd (X12_wrong (σ69 399 11) σ69) fun σ80 =>
            bd (gb (0 : Int32)) fun _ =>
            some ((0 : Int32), σ80)
          else
            X12_plain_85 r41 r58 σ69
        else
          X12_plain_85 r41 r58 σ58
      else
        bd (gb (0 : Int32)) fun _ =>
        some ((0 : Int32), σ41)
    else
      bd (ag σ17 400 (8 : Int32)) fun r29 =>
      if r29 = (1 : Int32) then
        bd (gb (1 : Int32)) fun _ =>
        some ((1 : Int32), σ17)
      else
        bd (gb (0 : Int32)) fun _ =>
        some ((0 : Int32), σ17)
  else
    bd (gb (σ3 399 15)) fun _ =>
    some ((σ3 399 15), σ3)
def oX12_atom_138 (rf_atom : Mem → Option (Int32 × Mem)) (rf_some : Mem → Option (Int32 × Mem)) (x3 : Int32) (σ : Mem) : Option (Int32 × Mem) :=
  bd (pu σ 399 13 ((σ 399 13) - (1 : Int32))) fun σ145 =>
  bd (gb x3) fun _ =>
  some (x3, σ145)
def oX12_atom_84 (rf_atom : Mem → Option (Int32 × Mem)) (rf_some : Mem → Option (Int32 × Mem)) (y0 : Int32) (σ : Mem) : Option (Int32 × Mem) :=
  oX12_atom_138 rf_atom rf_some y0 σ
def oX12_atom_128 (rf_atom : Mem → Option (Int32 × Mem)) (rf_some : Mem → Option (Int32 × Mem)) (x3 : Int32) (σ : Mem) : Option (Int32 × Mem) :=
  bd (pu σ 399 11 ((σ 399 11) + (1 : Int32))) fun σ135 =>
  oX12_atom_138 rf_atom rf_some x3 σ135
def oX12_atom_40 (rf_atom : Mem → Option (Int32 × Mem)) (rf_some : Mem → Option (Int32 × Mem)) (x1 : Int32) (x2 : Int32) (σ : Mem) : Option (Int32 × Mem) :=
  if (σ 399 13) = (6 : Int32) then
    bd (X12_wrong x1 σ) fun σ51 =>
    bd (gb (0 : Int32)) fun _ =>
    some ((0 : Int32), σ51)
  else
    bd (pu σ 399 13 ((σ 399 13) + (1 : Int32))) fun σ63 =>
    if x2 = 0 then
      bd (pu σ63 399 11 ((σ63 399 11) + (1 : Int32))) fun σ95 =>
      bd2 (rf_some σ95) fun r99 σ99 =>
      if (σ99 399 12) = (-1 : Int32) then
        bd2 (X12_isSign (41 : Int32) σ99) fun r114 σ114 =>
        if r114 = 0 then
          bd (X12_wrong (σ114 399 11) σ114) fun σ125 =>
          oX12_atom_128 rf_atom rf_some r99 σ125
        else
          oX12_atom_128 rf_atom rf_some r99 σ114
      else
        oX12_atom_128 rf_atom rf_some r99 σ99
    else
      bd2 (rf_atom σ63) fun r73 σ73 =>
      if r73 = 0 then
        oX12_atom_84 rf_atom rf_some (1 : Int32) σ73
      else
        oX12_atom_84 rf_atom rf_some (0 : Int32) σ73
def oX12_atom (rf_atom : Mem → Option (Int32 × Mem)) (rf_some : Mem → Option (Int32 × Mem)) (σ : Mem) : Option (Int32 × Mem) :=
  if (σ 399 12) = (-1 : Int32) then
    bd2 (X12_here σ) fun r11 σ11 =>
    bd2 (X12_has 27 σ11) fun r18 σ18 =>
    if r18 = 0 then
      bd2 (X12_isSign (40 : Int32) σ18) fun r29 σ29 =>
      if r29 = 0 then
        bd2 (X12_plain σ29) fun r36 σ36 =>
        bd (gb r36) fun _ =>
        some (r36, σ36)
      else
        oX12_atom_40 rf_atom rf_some r11 r18 σ29
    else
      oX12_atom_40 rf_atom rf_some r11 r18 σ18
  else
    bd (gb (0 : Int32)) fun _ =>
    some ((0 : Int32), σ)
def oX12_every_40 (rf_atom : Mem → Option (Int32 × Mem)) (rc5 : Int32 → Mem → Option (Int32 × Mem)) (y0 : Int32) (σ : Mem) : Option (Int32 × Mem) :=
  rc5 y0 σ
def oX12_every_39 (rf_atom : Mem → Option (Int32 × Mem)) (rc5 : Int32 → Mem → Option (Int32 × Mem)) (σ : Mem) : Option (Int32 × Mem) :=
  oX12_every_40 rf_atom rc5 (0 : Int32) σ
def oX12_every_5 (rf_atom : Mem → Option (Int32 × Mem)) : Nat → Int32 → Mem → Option (Int32 × Mem)
  | 0, _, _ => none
  | f + 1, x1, σ =>
    if (σ 399 12) = (-1 : Int32) then
      bd2 (X12_has 28 σ) fun r16 σ16 =>
      if r16 = 0 then
        bd (gb x1) fun _ =>
        some (x1, σ16)
      else
        bd2 (rf_atom σ16) fun r23 σ23 =>
        if x1 = 0 then
          oX12_every_39 rf_atom (oX12_every_5 rf_atom f) σ23
        else
          if r23 = 0 then
            oX12_every_39 rf_atom (oX12_every_5 rf_atom f) σ23
          else
            oX12_every_40 rf_atom (oX12_every_5 rf_atom f) (1 : Int32) σ23
    else
      bd (gb x1) fun _ =>
      some (x1, σ)
def oX12_every (rf_atom : Mem → Option (Int32 × Mem)) (σ : Mem) : Option (Int32 × Mem) :=
  bd2 (rf_atom σ) fun r1 σ1 =>
  oX12_every_5 rf_atom FU r1 σ1
def oX12_some_40 (rf_every : Mem → Option (Int32 × Mem)) (rc5 : Int32 → Mem → Option (Int32 × Mem)) (y0 : Int32) (σ : Mem) : Option (Int32 × Mem) :=
  rc5 y0 σ
def oX12_some_35 (rf_every : Mem → Option (Int32 × Mem)) (rc5 : Int32 → Mem → Option (Int32 × Mem)) (σ : Mem) : Option (Int32 × Mem) :=
  oX12_some_40 rf_every rc5 (1 : Int32) σ
def oX12_some_5 (rf_every : Mem → Option (Int32 × Mem)) : Nat → Int32 → Mem → Option (Int32 × Mem)
  | 0, _, _ => none
  | f + 1, x1, σ =>
    if (σ 399 12) = (-1 : Int32) then
      bd2 (X12_has 29 σ) fun r16 σ16 =>
      if r16 = 0 then
        bd (gb x1) fun _ =>
        some (x1, σ16)
      else
        bd2 (rf_every σ16) fun r23 σ23 =>
        if x1 = 0 then
          if r23 = 0 then
            oX12_some_40 rf_every (oX12_some_5 rf_every f) (0 : Int32) σ23
          else
            oX12_some_35 rf_every (oX12_some_5 rf_every f) σ23
        else
          oX12_some_35 rf_every (oX12_some_5 rf_every f) σ23
    else
      bd (gb x1) fun _ =>
      some (x1, σ)
def oX12_some (rf_every : Mem → Option (Int32 × Mem)) (σ : Mem) : Option (Int32 × Mem) :=
  bd2 (rf_every σ) fun r1 σ1 =>
  oX12_some_5 rf_every FU r1 σ1
def rc12 : Nat → (Mem → Option (Int32 × Mem)) × (Mem → Option (Int32 × Mem)) × (Mem → Option (Int32 × Mem))
  | 0 => (fun _ => none, fun _ => none, fun _ => none)
  | d + 1 => (fun σ => oX12_atom (rc12 d).1 (rc12 d).2.2 σ, fun σ => oX12_every (rc12 d).1 σ, fun σ => oX12_some (rc12 d).2.1 σ)
def X12_atom (σ : Mem) : Option (Int32 × Mem) := (rc12 40).1 σ
def X12_every (σ : Mem) : Option (Int32 × Mem) := (rc12 40).2.1 σ
def X12_some (σ : Mem) : Option (Int32 × Mem) := (rc12 40).2.2 σ
def X12_lawLine_134 (x1 : Int32) (x2 : Int32) (y1 : Int32) (σ : Mem) : Option Mem :=
  bd (gb y1) fun _ =>
  bd (pu σ 399 17 y1) fun σ134 =>
  if x1 = 0 then
    bd (pu σ134 399 16 ((σ134 399 16) + x2)) fun σ153 =>
    some σ153
  else
    bd (pu σ134 399 16 ((σ134 399 16) + (-x2))) fun σ153 =>
    some σ153
def X12_lawLine_129 (x1 : Int32) (x2 : Int32) (σ : Mem) : Option Mem :=
  X12_lawLine_134 x1 x2 (1 : Int32) σ
def X12_lawLine_102 (x1 : Int32) (x2 : Int32) (y0 : Int32) (σ : Mem) : Option Mem :=
  if (σ 399 12) = (-1 : Int32) then
    if y0 = 0 then
      some σ
    else
      if (σ 399 17) = 0 then
        if x1 = (2 : Int32) then
          X12_lawLine_129 x1 x2 σ
        else
          X12_lawLine_134 x1 x2 (0 : Int32) σ
      else
        X12_lawLine_129 x1 x2 σ
  else
    some σ
def X12_lawLine_97 (x1 : Int32) (x2 : Int32) (σ : Mem) : Option Mem :=
  X12_lawLine_102 x1 x2 (1 : Int32) σ
def X12_lawLine_71 (x1 : Int32) (y0 : Int32) (σ : Mem) : Option Mem :=
  if (σ 399 12) = (-1 : Int32) then
    bd2 (X12_has 26 σ) fun r84 σ84 =>
    if r84 = 0 then
      X12_lawLine_97 x1 y0 σ84
    else
      bd2 (X12_some σ84) fun r91 σ91 =>
      if r91 = 0 then
        X12_lawLine_102 x1 y0 (0 : Int32) σ91
      else
        X12_lawLine_97 x1 y0 σ91
  else
    some σ
def X12_lawLine_40 (y0 : Int32) (σ : Mem) : Option Mem :=
  if y0 = (-1 : Int32) then
    bd (X12_wrong (σ 399 11) σ) fun σ51 =>
    some σ51
  else
    if y0 = (2 : Int32) then
      X12_lawLine_71 y0 (0 : Int32) σ
    else
      bd2 (X12_figures (0 : Int32) (20 : Int32) σ) fun r68 σ68 =>
      X12_lawLine_71 y0 r68 σ68
def X12_lawLine (σ : Mem) : Option Mem :=
  bd2 (X12_has 23 σ) fun r3 σ3 =>
  if r3 = 0 then
    bd2 (X12_has 24 σ3) fun r16 σ16 =>
    if r16 = 0 then
      bd2 (X12_has 25 σ16) fun r29 σ29 =>
      if r29 = 0 then
        X12_lawLine_40 (-1 : Int32) σ29
      else
        X12_lawLine_40 (2 : Int32) σ29
    else
      X12_lawLine_40 (1 : Int32) σ16
  else
    X12_lawLine_40 (0 : Int32) σ3
section WALK
variable {p : Program} {l : Launch} {e : Env} {s : State} {m : MethodId} {args : Array Value} {below : List Frame} {meth : Method} {c : Code} {E : GE}
set_option maxRecDepth 20000 in
theorem w_X12_ways {r : Mem} {σ : Mem} {x1 : Int32} {x2 : Int32} {x3 : Int32} {ls : Array Slot} {H : Heap} {locs : List Loc} (C : Cx p s m args meth c cX12_ways none 4 RX12) (G : Gf E s) (X : Hx E σ s H locs) (hl : lv_has ls 4 [(0, .ref (gB E + 399)), (1, .int x1), (2, .int x2), (3, .int x3)]) (h : X12_ways x1 x2 x3 σ = some r) : W p l e (RM 1) s m args below meth c H locs 0 0 (QV E below args s r) (F0 m 0 ls []) := by
  rw [X12_ways] at h
  refine lv_aload_n C.1 C.2.1 dX12_ways_0 rfl (lv_at hl 0 rfl) ?_
  refine gfX12 C G X (k := 399) kd_399 1 (v := .ref (gB E + 400)) rfl rfl (by decide) k_1652 rfl dX12_ways_1 ?_
  refine lv_bipush (v := 47) C.1 C.2.1 dX12_ways_4 (by decide) ?_
  refine lv_bipush (v := 9) C.1 C.2.1 dX12_ways_6 (by decide) ?_
  refine lv_iload_n C.1 C.2.1 dX12_ways_8 rfl (lv_at hl 1 rfl) ?_
  refine lv_imul C.1 C.2.1 dX12_ways_9 ?_
  refine lv_iadd C.1 C.2.1 dX12_ways_10 ?_
  refine lv_iload_n C.1 C.2.1 dX12_ways_11 rfl (lv_at hl 2 rfl) ?_
  refine lv_iadd C.1 C.2.1 dX12_ways_12 ?_
  refine lv_iload_n C.1 C.2.1 dX12_ways_13 rfl (lv_at hl 3 rfl) ?_
  obtain ⟨σ14, e14, h⟩ := bnd h
  refine ast C G X (k := 400) kd_400 (au_s e14).1 dX12_ways_14 (fun H locs X => ?_)
  rw [(au_s e14).2] at X
  refine lv_aload_n C.1 C.2.1 dX12_ways_15 rfl (lv_at hl 0 rfl) ?_
  refine gfX12 C G X (k := 399) kd_399 1 (v := .ref (gB E + 400)) rfl rfl (by decide) k_1652 rfl dX12_ways_16 ?_
  refine lv_bipush (v := 47) C.1 C.2.1 dX12_ways_19 (by decide) ?_
  refine lv_bipush (v := 9) C.1 C.2.1 dX12_ways_21 (by decide) ?_
  refine lv_iload_n C.1 C.2.1 dX12_ways_23 rfl (lv_at hl 2 rfl) ?_
  refine lv_imul C.1 C.2.1 dX12_ways_24 ?_
  refine lv_iadd C.1 C.2.1 dX12_ways_25 ?_
  refine lv_iload_n C.1 C.2.1 dX12_ways_26 rfl (lv_at hl 1 rfl) ?_
  refine lv_iadd C.1 C.2.1 dX12_ways_27 ?_
  refine lv_iload_n C.1 C.2.1 dX12_ways_28 rfl (lv_at hl 3 rfl) ?_
  obtain ⟨σ29, e29, h⟩ := bnd h
  refine ast C G X (k := 400) kd_400 (au_s e29).1 dX12_ways_29 (fun H locs X => ?_)
  rw [(au_s e29).2] at X
  rw [← Option.some.inj h]
  exact rtV C X dX12_ways_30

theorem c_X12_ways (l : Launch) (E : GE) {σ : Mem} {x1 : Int32} {x2 : Int32} {x3 : Int32} {r : Mem} (h : X12_ways x1 x2 x3 σ = some r) : CtV l E yX12_ways cX12_ways 4 1 [.ref (gB E + 399), .int x1, .int x2, .int x3] σ r := by
  refine Met.ofW (cc := cX12_ways) (maxL := 4) (ret := none) (by decide) rfl ?_
  intro p e s m args below meth c s₁ B hml hv
  obtain ⟨rfl, G, X⟩ := start hv
  have C := cxof B hml
  have hl := lv_entry [.ref (gB E + 399), .int x1, .int x2, .int x3] (n := 4) (Nat.le_of_ble_eq_true rfl)
  rw [lg_entry_eq]
  generalize (lg_sl [.ref (gB E + 399), .int x1, .int x2, .int x3] ++ List.replicate (4 - (lg_sl [.ref (gB E + 399), .int x1, .int x2, .int x3]).length) Slot.unset).toArray = ls at hl ⊢
  exact w_X12_ways C G X hl h

set_option maxRecDepth 20000 in
theorem w_X12_isPane {r : Int32} {σ : Mem} {x1 : Int32} {ls : Array Slot} {H : Heap} {locs : List Loc} (C : Cx p s m args meth c cX12_isPane (some .boolean) 2 RX12) (G : Gf E s) (X : Hx E σ s H locs) (hl : lv_has ls 2 [(0, .ref (gB E + 399)), (1, .int x1)]) (h : X12_isPane σ x1 = some r) : W p l e (RM 2) s m args below meth c H locs 0 0 (QI E below args s r σ) (F0 m 0 ls []) := by
  rw [X12_isPane] at h
  refine lv_iload_n C.1 C.2.1 dX12_isPane_0 rfl (lv_at hl 1 rfl) ?_
  refine lv_iconst (v := 0) C.1 C.2.1 dX12_isPane_1 (by decide) ?_
  refine lv_aload_n C.1 C.2.1 dX12_isPane_2 rfl (lv_at hl 0 rfl) ?_
  refine gfX12 C G X (k := 399) kd_399 1 (v := .ref (gB E + 400)) rfl rfl (by decide) k_1652 rfl dX12_isPane_3 ?_
  refine lv_iconst (v := 3) C.1 C.2.1 dX12_isPane_6 (by decide) ?_
  obtain ⟨r7, e7, h⟩ := bnd h
  refine ald C G X (k := 400) kd_400 (ag_s e7).1 dX12_isPane_7 ?_
  rw [(ag_s e7).2]
  refine lv_iconst (v := 1) C.1 C.2.1 dX12_isPane_8 (by decide) ?_
  refine lv_isub C.1 C.2.1 dX12_isPane_9 ?_
  obtain ⟨r10, e10, h⟩ := bnd h
  refine afI X (runS C G X q_X12_isIn k_1734 k_1733 (c_X12_isIn l E e10) rfl hl.1 rfl (Nat.le_of_ble_eq_true rfl) ⟨Nat.le_of_ble_eq_true rfl, Nat.le_of_ble_eq_true rfl⟩ ⟨Nat.le_of_ble_eq_true rfl, Nat.le_of_ble_eq_true rfl⟩ dX12_isPane_10) (fun H locs X => ?_)
  obtain ⟨u13, z13, h⟩ := bnd h
  rw [← Option.some.inj h]
  exact rtZ C X (gb_s z13) dX12_isPane_13

theorem c_X12_isPane (l : Launch) (E : GE) {σ : Mem} {x1 : Int32} {r : Int32} (h : X12_isPane σ x1 = some r) : CtI l E yX12_isPane cX12_isPane 2 .boolean 2 [.ref (gB E + 399), .int x1] σ r σ := by
  refine Met.ofW (cc := cX12_isPane) (maxL := 2) (ret := (some .boolean)) (by decide) rfl ?_
  intro p e s m args below meth c s₁ B hml hv
  obtain ⟨rfl, G, X⟩ := start hv
  have C := cxof B hml
  have hl := lv_entry [.ref (gB E + 399), .int x1] (n := 2) (Nat.le_of_ble_eq_true rfl)
  rw [lg_entry_eq]
  generalize (lg_sl [.ref (gB E + 399), .int x1] ++ List.replicate (2 - (lg_sl [.ref (gB E + 399), .int x1]).length) Slot.unset).toArray = ls at hl ⊢
  exact w_X12_isPane C G X hl h

set_option maxRecDepth 20000 in
theorem w_X12_isWalker {r : Int32} {σ : Mem} {x1 : Int32} {ls : Array Slot} {H : Heap} {locs : List Loc} (C : Cx p s m args meth c cX12_isWalker (some .boolean) 2 RX12) (G : Gf E s) (X : Hx E σ s H locs) (hl : lv_has ls 2 [(0, .ref (gB E + 399)), (1, .int x1)]) (h : X12_isWalker σ x1 = some r) : W p l e (RM 2) s m args below meth c H locs 0 0 (QI E below args s r σ) (F0 m 0 ls []) := by
  rw [X12_isWalker] at h
  refine lv_iload_n C.1 C.2.1 dX12_isWalker_0 rfl (lv_at hl 1 rfl) ?_
  refine lv_iconst (v := 0) C.1 C.2.1 dX12_isWalker_1 (by decide) ?_
  refine lv_aload_n C.1 C.2.1 dX12_isWalker_2 rfl (lv_at hl 0 rfl) ?_
  refine gfX12 C G X (k := 399) kd_399 1 (v := .ref (gB E + 400)) rfl rfl (by decide) k_1652 rfl dX12_isWalker_3 ?_
  refine lv_iconst (v := 4) C.1 C.2.1 dX12_isWalker_6 (by decide) ?_
  obtain ⟨r7, e7, h⟩ := bnd h
  refine ald C G X (k := 400) kd_400 (ag_s e7).1 dX12_isWalker_7 ?_
  rw [(ag_s e7).2]
  refine lv_iconst (v := 1) C.1 C.2.1 dX12_isWalker_8 (by decide) ?_
  refine lv_isub C.1 C.2.1 dX12_isWalker_9 ?_
  obtain ⟨r10, e10, h⟩ := bnd h
  refine afI X (runS C G X q_X12_isIn k_1734 k_1733 (c_X12_isIn l E e10) rfl hl.1 rfl (Nat.le_of_ble_eq_true rfl) ⟨Nat.le_of_ble_eq_true rfl, Nat.le_of_ble_eq_true rfl⟩ ⟨Nat.le_of_ble_eq_true rfl, Nat.le_of_ble_eq_true rfl⟩ dX12_isWalker_10) (fun H locs X => ?_)
  obtain ⟨u13, z13, h⟩ := bnd h
  rw [← Option.some.inj h]
  exact rtZ C X (gb_s z13) dX12_isWalker_13

theorem c_X12_isWalker (l : Launch) (E : GE) {σ : Mem} {x1 : Int32} {r : Int32} (h : X12_isWalker σ x1 = some r) : CtI l E yX12_isWalker cX12_isWalker 2 .boolean 2 [.ref (gB E + 399), .int x1] σ r σ := by
  refine Met.ofW (cc := cX12_isWalker) (maxL := 2) (ret := (some .boolean)) (by decide) rfl ?_
  intro p e s m args below meth c s₁ B hml hv
  obtain ⟨rfl, G, X⟩ := start hv
  have C := cxof B hml
  have hl := lv_entry [.ref (gB E + 399), .int x1] (n := 2) (Nat.le_of_ble_eq_true rfl)
  rw [lg_entry_eq]
  generalize (lg_sl [.ref (gB E + 399), .int x1] ++ List.replicate (2 - (lg_sl [.ref (gB E + 399), .int x1]).length) Slot.unset).toArray = ls at hl ⊢
  exact w_X12_isWalker C G X hl h

set_option maxRecDepth 20000 in
theorem w_X12_allPanes {r : Int32} {σ : Mem} {ls : Array Slot} {H : Heap} {locs : List Loc} (C : Cx p s m args meth c cX12_allPanes (some .int) 1 RX12) (G : Gf E s) (X : Hx E σ s H locs) (hl : lv_has ls 1 [(0, .ref (gB E + 399))]) (h : X12_allPanes σ = some r) : W p l e (RM 1) s m args below meth c H locs 0 0 (QI E below args s r σ) (F0 m 0 ls []) := by
  rw [X12_allPanes] at h
  refine lv_iconst (v := 1) C.1 C.2.1 dX12_allPanes_0 (by decide) ?_
  refine lv_aload_n C.1 C.2.1 dX12_allPanes_1 rfl (lv_at hl 0 rfl) ?_
  refine gfX12 C G X (k := 399) kd_399 1 (v := .ref (gB E + 400)) rfl rfl (by decide) k_1652 rfl dX12_allPanes_2 ?_
  refine lv_iconst (v := 3) C.1 C.2.1 dX12_allPanes_5 (by decide) ?_
  obtain ⟨r6, e6, h⟩ := bnd h
  refine ald C G X (k := 400) kd_400 (ag_s e6).1 dX12_allPanes_6 ?_
  rw [(ag_s e6).2]
  refine lv_ishl C.1 C.2.1 dX12_allPanes_7 ?_
  refine lv_iconst (v := 1) C.1 C.2.1 dX12_allPanes_8 (by decide) ?_
  refine lv_isub C.1 C.2.1 dX12_allPanes_9 ?_
  rw [← Option.some.inj h]
  exact rtI C X dX12_allPanes_10

theorem c_X12_allPanes (l : Launch) (E : GE) {σ : Mem} {r : Int32} (h : X12_allPanes σ = some r) : CtI l E yX12_allPanes cX12_allPanes 1 .int 1 [.ref (gB E + 399)] σ r σ := by
  refine Met.ofW (cc := cX12_allPanes) (maxL := 1) (ret := (some .int)) (by decide) rfl ?_
  intro p e s m args below meth c s₁ B hml hv
  obtain ⟨rfl, G, X⟩ := start hv
  have C := cxof B hml
  have hl := lv_entry [.ref (gB E + 399)] (n := 1) (Nat.le_of_ble_eq_true rfl)
  rw [lg_entry_eq]
  generalize (lg_sl [.ref (gB E + 399)] ++ List.replicate (1 - (lg_sl [.ref (gB E + 399)]).length) Slot.unset).toArray = ls at hl ⊢
  exact w_X12_allPanes C G X hl h

set_option maxRecDepth 20000 in
theorem w_X12_nextTo_17 {r : Int32} {σ : Mem} {rc4 : Int32 → Int32 → Int32 → Option Int32} (C : Cx p s m args meth c cX12_nextTo (some .int) 5 RX12) (G : Gf E s) (hr4 : ∀ {x1 : Int32} {x2 : Int32} {x3 : Int32} {ls : Array Slot} {H : Heap} {locs : List Loc}, Hx E σ s H locs → lv_has ls 5 [(0, .ref (gB E + 399)), (1, .int x1), (2, .int x2), (3, .int x3)] → rc4 x1 x2 x3 = some r → W p l e (RM 2) s m args below meth c H locs 0 0 (QI E below args s r σ) (F0 m 4 ls [])) : ∀ (f : Nat) {x1 : Int32} {x2 : Int32} {x3 : Int32} {x4 : Int32} {ls : Array Slot} {H : Heap} {locs : List Loc}, Hx E σ s H locs → lv_has ls 5 [(0, .ref (gB E + 399)), (1, .int x1), (2, .int x2), (3, .int x3), (4, .int x4)] → X12_nextTo_17 σ rc4 f x1 x2 x3 x4 = some r → W p l e (RM 2) s m args below meth c H locs 0 0 (QI E below args s r σ) (F0 m 17 ls []) := by
  intro f
  induction f with
  | zero =>
    intro x1 x2 x3 x4 ls H locs X hl h
    rw [X12_nextTo_17] at h
    cases h
  | succ f ih =>
    intro x1 x2 x3 x4 ls H locs X hl h
    rw [X12_nextTo_17] at h
    refine lv_iload C.1 C.2.1 dX12_nextTo_17 (lv_at hl 4 rfl) ?_
    refine lv_aload_n C.1 C.2.1 dX12_nextTo_19 rfl (lv_at hl 0 rfl) ?_
    refine gfX12 C G X (k := 399) kd_399 1 (v := .ref (gB E + 400)) rfl rfl (by decide) k_1652 rfl dX12_nextTo_20 ?_
    refine lv_iconst (v := 3) C.1 C.2.1 dX12_nextTo_23 (by decide) ?_
    obtain ⟨r24, e24, h⟩ := bnd h
    refine ald C G X (k := 400) kd_400 (ag_s e24).1 dX12_nextTo_24 ?_
    rw [(ag_s e24).2]
    refine lv_icmp_ge (tgt := 59) C.1 C.2.1 dX12_nextTo_25 (by decide) (fun c25 => ?_) (fun c25 => ?_)
    · replace h := ipos c25 h
      refine lv_iinc (v := (x3 + 1)) (lv' := [(3, .int (x3 + 1)), (0, .ref (gB E + 399)), (1, .int x1), (2, .int x2), (4, .int x4)]) C.1 C.2.1 dX12_nextTo_59 hl (k := 3) rfl rfl (by decide) rfl (fun ls hl => ?_)
      refine lv_goto (tgt := 4) C.1 C.2.1 dX12_nextTo_62 (by decide) ?_
      exact hr4 X (lv_sub hl [1, 2, 3, 0] rfl) h
    · replace h := ineg c25 h
      refine lv_iload_n C.1 C.2.1 dX12_nextTo_28 rfl (lv_at hl 1 rfl) ?_
      refine lv_iload_n C.1 C.2.1 dX12_nextTo_29 rfl (lv_at hl 3 rfl) ?_
      obtain ⟨r30, e30, h⟩ := bnd h
      refine afI X (runS C G X q_X12_isOf k_1943 k_1942 (c_X12_isOf l E e30) rfl hl.1 rfl (Nat.le_of_ble_eq_true rfl) ⟨Nat.le_of_ble_eq_true rfl, Nat.le_of_ble_eq_true rfl⟩ ⟨Nat.le_of_ble_eq_true rfl, Nat.le_of_ble_eq_true rfl⟩ dX12_nextTo_30) (fun H locs X => ?_)
      refine lv_if_eq (tgt := 53) C.1 C.2.1 dX12_nextTo_33 (by decide) (fun c33 => ?_) (fun c33 => ?_)
      · replace h := ipos c33 h
        refine lv_iinc (v := (x4 + 1)) (lv' := [(4, .int (x4 + 1)), (0, .ref (gB E + 399)), (1, .int x1), (2, .int x2), (3, .int x3)]) C.1 C.2.1 dX12_nextTo_53 hl (k := 4) rfl rfl (by decide) rfl (fun ls hl => ?_)
        refine lv_goto (tgt := 17) C.1 C.2.1 dX12_nextTo_56 (by decide) ?_
        exact ih X (lv_sub hl [1, 2, 3, 4, 0] rfl) h
      · replace h := ineg c33 h
        refine lv_aload_n C.1 C.2.1 dX12_nextTo_36 rfl (lv_at hl 0 rfl) ?_
        refine lv_iload_n C.1 C.2.1 dX12_nextTo_37 rfl (lv_at hl 3 rfl) ?_
        refine lv_iload C.1 C.2.1 dX12_nextTo_38 (lv_at hl 4 rfl) ?_
        obtain ⟨r40, e40, h⟩ := bnd h
        refine afI X (runV C G X q_X12_isWay k_1951 kp_68 k_1949 (rcX12 G X kd_399) (c_X12_isWay l E e40) rfl hl.1 rfl (Nat.le_of_ble_eq_true rfl) ⟨Nat.le_of_ble_eq_true rfl, Nat.le_of_ble_eq_true rfl⟩ ⟨Nat.le_of_ble_eq_true rfl, Nat.le_of_ble_eq_true rfl⟩ dX12_nextTo_40) (fun H locs X => ?_)
        refine lv_if_eq (tgt := 53) C.1 C.2.1 dX12_nextTo_43 (by decide) (fun c43 => ?_) (fun c43 => ?_)
        · replace h := ipos c43 h
          refine lv_iinc (v := (x4 + 1)) (lv' := [(4, .int (x4 + 1)), (0, .ref (gB E + 399)), (1, .int x1), (2, .int x2), (3, .int x3)]) C.1 C.2.1 dX12_nextTo_53 hl (k := 4) rfl rfl (by decide) rfl (fun ls hl => ?_)
          refine lv_goto (tgt := 17) C.1 C.2.1 dX12_nextTo_56 (by decide) ?_
          exact ih X (lv_sub hl [1, 2, 3, 4, 0] rfl) h
        · replace h := ineg c43 h
          refine lv_iload_n C.1 C.2.1 dX12_nextTo_46 rfl (lv_at hl 2 rfl) ?_
          refine lv_iconst (v := 1) C.1 C.2.1 dX12_nextTo_47 (by decide) ?_
          refine lv_iload C.1 C.2.1 dX12_nextTo_48 (lv_at hl 4 rfl) ?_
          refine lv_ishl C.1 C.2.1 dX12_nextTo_50 ?_
          refine lv_ior C.1 C.2.1 dX12_nextTo_51 ?_
          refine lv_istore_n (lv' := [(2, .int (x2 ||| ((1 : Int32) <<< (x4 &&& 31)))), (0, .ref (gB E + 399)), (1, .int x1), (3, .int x3), (4, .int x4)]) C.1 C.2.1 dX12_nextTo_52 rfl hl (by decide) rfl (fun ls hl => ?_)
          refine lv_iinc (v := (x4 + 1)) (lv' := [(4, .int (x4 + 1)), (2, .int (x2 ||| ((1 : Int32) <<< (x4 &&& 31)))), (0, .ref (gB E + 399)), (1, .int x1), (3, .int x3)]) C.1 C.2.1 dX12_nextTo_53 hl (k := 4) rfl rfl (by decide) rfl (fun ls hl => ?_)
          refine lv_goto (tgt := 17) C.1 C.2.1 dX12_nextTo_56 (by decide) ?_
          exact ih X (lv_sub hl [2, 3, 1, 4, 0] rfl) h

set_option maxRecDepth 20000 in
theorem w_X12_nextTo_4 {r : Int32} {σ : Mem} (C : Cx p s m args meth c cX12_nextTo (some .int) 5 RX12) (G : Gf E s) : ∀ (f : Nat) {x1 : Int32} {x2 : Int32} {x3 : Int32} {ls : Array Slot} {H : Heap} {locs : List Loc}, Hx E σ s H locs → lv_has ls 5 [(0, .ref (gB E + 399)), (1, .int x1), (2, .int x2), (3, .int x3)] → X12_nextTo_4 σ f x1 x2 x3 = some r → W p l e (RM 2) s m args below meth c H locs 0 0 (QI E below args s r σ) (F0 m 4 ls []) := by
  intro f
  induction f with
  | zero =>
    intro x1 x2 x3 ls H locs X hl h
    rw [X12_nextTo_4] at h
    cases h
  | succ f ih =>
    intro x1 x2 x3 ls H locs X hl h
    rw [X12_nextTo_4] at h
    refine lv_iload_n C.1 C.2.1 dX12_nextTo_4 rfl (lv_at hl 3 rfl) ?_
    refine lv_aload_n C.1 C.2.1 dX12_nextTo_5 rfl (lv_at hl 0 rfl) ?_
    refine gfX12 C G X (k := 399) kd_399 1 (v := .ref (gB E + 400)) rfl rfl (by decide) k_1652 rfl dX12_nextTo_6 ?_
    refine lv_iconst (v := 3) C.1 C.2.1 dX12_nextTo_9 (by decide) ?_
    obtain ⟨r10, e10, h⟩ := bnd h
    refine ald C G X (k := 400) kd_400 (ag_s e10).1 dX12_nextTo_10 ?_
    rw [(ag_s e10).2]
    refine lv_icmp_ge (tgt := 65) C.1 C.2.1 dX12_nextTo_11 (by decide) (fun c11 => ?_) (fun c11 => ?_)
    · replace h := ipos c11 h
      refine lv_iload_n C.1 C.2.1 dX12_nextTo_65 rfl (lv_at hl 2 rfl) ?_
      rw [← Option.some.inj h]
      exact rtI C X dX12_nextTo_66
    · replace h := ineg c11 h
      refine lv_iconst (v := 0) C.1 C.2.1 dX12_nextTo_14 (by decide) ?_
      refine lv_istore (lv' := [(4, .int (0 : Int32)), (0, .ref (gB E + 399)), (1, .int x1), (2, .int x2), (3, .int x3)]) C.1 C.2.1 dX12_nextTo_15 hl (by decide) rfl (fun ls hl => ?_)
      exact w_X12_nextTo_17 C G ih FU X (lv_sub hl [1, 2, 3, 4, 0] rfl) h

set_option maxRecDepth 20000 in
theorem w_X12_nextTo {r : Int32} {σ : Mem} {x1 : Int32} {ls : Array Slot} {H : Heap} {locs : List Loc} (C : Cx p s m args meth c cX12_nextTo (some .int) 5 RX12) (G : Gf E s) (X : Hx E σ s H locs) (hl : lv_has ls 5 [(0, .ref (gB E + 399)), (1, .int x1)]) (h : X12_nextTo σ x1 = some r) : W p l e (RM 2) s m args below meth c H locs 0 0 (QI E below args s r σ) (F0 m 0 ls []) := by
  rw [X12_nextTo] at h
  refine lv_iconst (v := 0) C.1 C.2.1 dX12_nextTo_0 (by decide) ?_
  refine lv_istore_n (lv' := [(2, .int (0 : Int32)), (0, .ref (gB E + 399)), (1, .int x1)]) C.1 C.2.1 dX12_nextTo_1 rfl hl (by decide) rfl (fun ls hl => ?_)
  refine lv_iconst (v := 0) C.1 C.2.1 dX12_nextTo_2 (by decide) ?_
  refine lv_istore_n (lv' := [(3, .int (0 : Int32)), (2, .int (0 : Int32)), (0, .ref (gB E + 399)), (1, .int x1)]) C.1 C.2.1 dX12_nextTo_3 rfl hl (by decide) rfl (fun ls hl => ?_)
  exact w_X12_nextTo_4 C G FU X (lv_sub hl [2, 3, 1, 0] rfl) h

theorem c_X12_nextTo (l : Launch) (E : GE) {σ : Mem} {x1 : Int32} {r : Int32} (h : X12_nextTo σ x1 = some r) : CtI l E yX12_nextTo cX12_nextTo 5 .int 2 [.ref (gB E + 399), .int x1] σ r σ := by
  refine Met.ofW (cc := cX12_nextTo) (maxL := 5) (ret := (some .int)) (by decide) rfl ?_
  intro p e s m args below meth c s₁ B hml hv
  obtain ⟨rfl, G, X⟩ := start hv
  have C := cxof B hml
  have hl := lv_entry [.ref (gB E + 399), .int x1] (n := 5) (Nat.le_of_ble_eq_true rfl)
  rw [lg_entry_eq]
  generalize (lg_sl [.ref (gB E + 399), .int x1] ++ List.replicate (5 - (lg_sl [.ref (gB E + 399), .int x1]).length) Slot.unset).toArray = ls at hl ⊢
  exact w_X12_nextTo C G X hl h

set_option maxRecDepth 20000 in
theorem w_X12_farOf_7 {r : Int32} {σ : Mem} (C : Cx p s m args meth c cX12_farOf (some .int) 5 RX12) (G : Gf E s) : ∀ (f : Nat) {x2 : Int32} {x3 : Int32} {x4 : Int32} {ls : Array Slot} {H : Heap} {locs : List Loc}, Hx E σ s H locs → lv_has ls 5 [(0, .ref (gB E + 399)), (2, .int x2), (3, .int x3), (4, .int x4)] → X12_farOf_7 σ f x2 x3 x4 = some r → W p l e (RM 3) s m args below meth c H locs 0 0 (QI E below args s r σ) (F0 m 7 ls []) := by
  intro f
  induction f with
  | zero =>
    intro x2 x3 x4 ls H locs X hl h
    rw [X12_farOf_7] at h
    cases h
  | succ f ih =>
    intro x2 x3 x4 ls H locs X hl h
    rw [X12_farOf_7] at h
    refine lv_iload C.1 C.2.1 dX12_farOf_7 (lv_at hl 3 rfl) ?_
    refine lv_bipush (v := 9) C.1 C.2.1 dX12_farOf_9 (by decide) ?_
    refine lv_icmp_ge (tgt := 39) C.1 C.2.1 dX12_farOf_11 (by decide) (fun c11 => ?_) (fun c11 => ?_)
    · replace h := ipos c11 h
      refine lv_iconst (v := -1) C.1 C.2.1 dX12_farOf_39 (by decide) ?_
      rw [← Option.some.inj h]
      exact rtI C X dX12_farOf_40
    · replace h := ineg c11 h
      refine lv_iload_n C.1 C.2.1 dX12_farOf_14 rfl (lv_at hl 2 rfl) ?_
      refine lv_iload_n C.1 C.2.1 dX12_farOf_15 rfl (lv_at hl 1 rfl) ?_
      obtain ⟨r16, e16, h⟩ := bnd h
      refine afI X (runS C G X q_X12_isOf k_1943 k_1942 (c_X12_isOf l E e16) rfl hl.1 rfl (Nat.le_of_ble_eq_true rfl) ⟨Nat.le_of_ble_eq_true rfl, Nat.le_of_ble_eq_true rfl⟩ ⟨Nat.le_of_ble_eq_true rfl, Nat.le_of_ble_eq_true rfl⟩ dX12_farOf_16) (fun H locs X => ?_)
      refine lv_if_eq (tgt := 25) C.1 C.2.1 dX12_farOf_19 (by decide) (fun c19 => ?_) (fun c19 => ?_)
      · replace h := ipos c19 h
        refine lv_iload_n C.1 C.2.1 dX12_farOf_25 rfl (lv_at hl 2 rfl) ?_
        refine lv_aload_n C.1 C.2.1 dX12_farOf_26 rfl (lv_at hl 0 rfl) ?_
        refine lv_iload_n C.1 C.2.1 dX12_farOf_27 rfl (lv_at hl 2 rfl) ?_
        obtain ⟨r28, e28, h⟩ := bnd h
        refine afI X (runV C G X q_X12_nextTo k_1947 kp_67 k_1945 (rcX12 G X kd_399) (c_X12_nextTo l E e28) rfl hl.1 rfl (Nat.le_of_ble_eq_true rfl) ⟨Nat.le_of_ble_eq_true rfl, Nat.le_of_ble_eq_true rfl⟩ ⟨Nat.le_of_ble_eq_true rfl, Nat.le_of_ble_eq_true rfl⟩ dX12_farOf_28) (fun H locs X => ?_)
        refine lv_ior C.1 C.2.1 dX12_farOf_31 ?_
        refine lv_istore_n (lv' := [(3, .int (x3 ||| r28)), (0, .ref (gB E + 399)), (2, .int x2), (4, .int x4)]) C.1 C.2.1 dX12_farOf_32 rfl hl (by decide) rfl (fun ls hl => ?_)
        refine lv_iinc (v := (x4 + 1)) (lv' := [(4, .int (x4 + 1)), (3, .int (x3 ||| r28)), (0, .ref (gB E + 399)), (2, .int x2)]) C.1 C.2.1 dX12_farOf_33 hl (k := 3) rfl rfl (by decide) rfl (fun ls hl => ?_)
        refine lv_goto (tgt := 7) C.1 C.2.1 dX12_farOf_36 (by decide) ?_
        exact ih X (lv_sub hl [2, 3, 1, 0] rfl) h
      · replace h := ineg c19 h
        refine lv_iload C.1 C.2.1 dX12_farOf_22 (lv_at hl 3 rfl) ?_
        rw [← Option.some.inj h]
        exact rtI C X dX12_farOf_24

set_option maxRecDepth 20000 in
theorem w_X12_farOf {r : Int32} {σ : Mem} {x1 : Int32} {x2 : Int32} {ls : Array Slot} {H : Heap} {locs : List Loc} (C : Cx p s m args meth c cX12_farOf (some .int) 5 RX12) (G : Gf E s) (X : Hx E σ s H locs) (hl : lv_has ls 5 [(0, .ref (gB E + 399)), (1, .int x1), (2, .int x2)]) (h : X12_farOf σ x1 x2 = some r) : W p l e (RM 3) s m args below meth c H locs 0 0 (QI E below args s r σ) (F0 m 0 ls []) := by
  rw [X12_farOf] at h
  refine lv_iconst (v := 1) C.1 C.2.1 dX12_farOf_0 (by decide) ?_
  refine lv_iload_n C.1 C.2.1 dX12_farOf_1 rfl (lv_at hl 1 rfl) ?_
  refine lv_ishl C.1 C.2.1 dX12_farOf_2 ?_
  refine lv_istore_n (lv' := [(3, .int ((1 : Int32) <<< (x1 &&& 31))), (0, .ref (gB E + 399)), (1, .int x1), (2, .int x2)]) C.1 C.2.1 dX12_farOf_3 rfl hl (by decide) rfl (fun ls hl => ?_)
  refine lv_iconst (v := 0) C.1 C.2.1 dX12_farOf_4 (by decide) ?_
  refine lv_istore (lv' := [(4, .int (0 : Int32)), (3, .int ((1 : Int32) <<< (x1 &&& 31))), (0, .ref (gB E + 399)), (1, .int x1), (2, .int x2)]) C.1 C.2.1 dX12_farOf_5 hl (by decide) rfl (fun ls hl => ?_)
  exact w_X12_farOf_7 C G FU X (lv_sub hl [2, 4, 1, 0] rfl) h

theorem c_X12_farOf (l : Launch) (E : GE) {σ : Mem} {x1 : Int32} {x2 : Int32} {r : Int32} (h : X12_farOf σ x1 x2 = some r) : CtI l E yX12_farOf cX12_farOf 5 .int 3 [.ref (gB E + 399), .int x1, .int x2] σ r σ := by
  refine Met.ofW (cc := cX12_farOf) (maxL := 5) (ret := (some .int)) (by decide) rfl ?_
  intro p e s m args below meth c s₁ B hml hv
  obtain ⟨rfl, G, X⟩ := start hv
  have C := cxof B hml
  have hl := lv_entry [.ref (gB E + 399), .int x1, .int x2] (n := 5) (Nat.le_of_ble_eq_true rfl)
  rw [lg_entry_eq]
  generalize (lg_sl [.ref (gB E + 399), .int x1, .int x2] ++ List.replicate (5 - (lg_sl [.ref (gB E + 399), .int x1, .int x2]).length) Slot.unset).toArray = ls at hl ⊢
  exact w_X12_farOf C G X hl h

set_option maxRecDepth 20000 in
theorem w_X12_feed_76 {r : (Int32 × Mem)} {σ : Mem} {rc23 : Int32 → Int32 → Int32 → Int32 → Int32 → Int32 → Mem → Option (Int32 × Mem)} {x1 : Int32} {x2 : Int32} {x3 : Int32} {x4 : Int32} {x5 : Int32} {x6 : Int32} {y0 : Int32} {ls : Array Slot} {H : Heap} {locs : List Loc} (C : Cx p s m args meth c cX12_feed (some .int) 8 RX12) (G : Gf E s) (hr23 : ∀ {x1 : Int32} {x2 : Int32} {x3 : Int32} {x4 : Int32} {x5 : Int32} {x6 : Int32} {σ : Mem} {ls : Array Slot} {H : Heap} {locs : List Loc}, Hx E σ s H locs → lv_has ls 8 [(0, .ref (gB E + 399)), (1, .int x1), (2, .int x2), (3, .int x3), (4, .int x4), (5, .int x5), (6, .int x6)] → rc23 x1 x2 x3 x4 x5 x6 σ = some r → W p l e (RM 1) s m args below meth c H locs 0 0 (QI E below args s r.1 r.2) (F0 m 23 ls [])) (X : Hx E σ s H locs) (hl : lv_has ls 8 [(0, .ref (gB E + 399)), (1, .int x1), (2, .int x2), (3, .int x3), (4, .int x4), (5, .int x5), (6, .int x6)]) (h : X12_feed_76 rc23 x1 x2 x3 x4 x5 x6 y0 σ = some r) : W p l e (RM 1) s m args below meth c H locs 0 0 (QI E below args s r.1 r.2) (F0 m 76 ls [.int y0]) := by
  rw [X12_feed_76] at h
  refine lv_istore (lv' := [(7, .int y0), (0, .ref (gB E + 399)), (1, .int x1), (2, .int x2), (3, .int x3), (4, .int x4), (5, .int x5), (6, .int x6)]) C.1 C.2.1 dX12_feed_76 hl (by decide) rfl (fun ls hl => ?_)
  refine lv_aload_n C.1 C.2.1 dX12_feed_78 rfl (lv_at hl 1 rfl) ?_
  refine gfX12 C G X (k := 399) kd_399 7 (v := .ref (gB E + 404)) rfl rfl (by decide) k_1658 rfl dX12_feed_79 ?_
  refine lv_aload_n C.1 C.2.1 dX12_feed_82 rfl (lv_at hl 1 rfl) ?_
  refine gfX12 C G X (k := 399) kd_399 8 (v := .int (σ 399 8)) rfl rfl (by decide) k_1659 rfl dX12_feed_83 ?_
  refine lv_iload C.1 C.2.1 dX12_feed_86 (lv_at hl 0 rfl) ?_
  refine lv_bipush (v := 24) C.1 C.2.1 dX12_feed_88 (by decide) ?_
  refine lv_bipush (v := 8) C.1 C.2.1 dX12_feed_90 (by decide) ?_
  refine lv_iload C.1 C.2.1 dX12_feed_92 (lv_at hl 7 rfl) ?_
  refine lv_iconst (v := 4) C.1 C.2.1 dX12_feed_94 (by decide) ?_
  refine lv_irem C.1 C.2.1 dX12_feed_95 (by decide) ?_
  refine lv_imul C.1 C.2.1 dX12_feed_96 ?_
  refine lv_isub C.1 C.2.1 dX12_feed_97 ?_
  refine lv_iushr C.1 C.2.1 dX12_feed_98 rfl ?_
  refine lv_sipush (v := 255) C.1 C.2.1 dX12_feed_99 (by decide) ?_
  refine lv_iand C.1 C.2.1 dX12_feed_102 ?_
  obtain ⟨σ103, e103, h⟩ := bnd h
  refine ast C G X (k := 404) kd_404 (au_s e103).1 dX12_feed_103 (fun H locs X => ?_)
  rw [(au_s e103).2] at X
  refine lv_aload_n C.1 C.2.1 dX12_feed_104 rfl (lv_at hl 1 rfl) ?_
  refine lv_dup C.1 C.2.1 dX12_feed_105 rfl ?_
  refine gfX12 C G X (k := 399) kd_399 8 (v := .int (σ103 399 8)) rfl rfl (by decide) k_1659 rfl dX12_feed_106 ?_
  refine lv_iconst (v := 1) C.1 C.2.1 dX12_feed_109 (by decide) ?_
  refine lv_iadd C.1 C.2.1 dX12_feed_110 ?_
  obtain ⟨σ111, e111, h⟩ := bnd h
  refine pfX12 C G X (k := 399) kd_399 8 (x := ((σ103 399 8) + (1 : Int32))) (ty := .int) rfl rfl (Nat.le_of_ble_eq_true rfl) (by decide) k_1659 rfl rfl (by decide +kernel) rfl rfl dX12_feed_111 (fun H locs X => ?_)
  replace X := pu_x e111 X
  refine lv_iinc (v := (x6 + 1)) (lv' := [(6, .int (x6 + 1)), (7, .int y0), (0, .ref (gB E + 399)), (1, .int x1), (2, .int x2), (3, .int x3), (4, .int x4), (5, .int x5)]) C.1 C.2.1 dX12_feed_114 hl (k := 7) rfl rfl (by decide) rfl (fun ls hl => ?_)
  refine lv_goto (tgt := 23) C.1 C.2.1 dX12_feed_117 (by decide) ?_
  exact hr23 X (lv_sub hl [2, 3, 4, 5, 6, 7, 0] rfl) h

set_option maxRecDepth 20000 in
theorem w_X12_feed_23 {r : (Int32 × Mem)} (C : Cx p s m args meth c cX12_feed (some .int) 8 RX12) (G : Gf E s) : ∀ (f : Nat) {x1 : Int32} {x2 : Int32} {x3 : Int32} {x4 : Int32} {x5 : Int32} {x6 : Int32} {σ : Mem} {ls : Array Slot} {H : Heap} {locs : List Loc}, Hx E σ s H locs → lv_has ls 8 [(0, .ref (gB E + 399)), (1, .int x1), (2, .int x2), (3, .int x3), (4, .int x4), (5, .int x5), (6, .int x6)] → X12_feed_23 f x1 x2 x3 x4 x5 x6 σ = some r → W p l e (RM 1) s m args below meth c H locs 0 0 (QI E below args s r.1 r.2) (F0 m 23 ls []) := by
  intro f
  induction f with
  | zero =>
    intro x1 x2 x3 x4 x5 x6 σ ls H locs X hl h
    rw [X12_feed_23] at h
    cases h
  | succ f ih =>
    intro x1 x2 x3 x4 x5 x6 σ ls H locs X hl h
    rw [X12_feed_23] at h
    refine lv_iload C.1 C.2.1 dX12_feed_23 (lv_at hl 6 rfl) ?_
    refine lv_bipush (v := 20) C.1 C.2.1 dX12_feed_25 (by decide) ?_
    refine lv_icmp_ge (tgt := 120) C.1 C.2.1 dX12_feed_27 (by decide) (fun c27 => ?_) (fun c27 => ?_)
    · replace h := ipos c27 h
      refine lv_aload_n C.1 C.2.1 dX12_feed_120 rfl (lv_at hl 0 rfl) ?_
      refine gfX12 C G X (k := 399) kd_399 8 (v := .int (σ 399 8)) rfl rfl (by decide) k_1659 rfl dX12_feed_121 ?_
      rw [← Option.some.inj h]
      exact rtI C X dX12_feed_124
    · replace h := ineg c27 h
      refine lv_iload C.1 C.2.1 dX12_feed_30 (lv_at hl 6 rfl) ?_
      refine lv_iconst (v := 4) C.1 C.2.1 dX12_feed_32 (by decide) ?_
      refine lv_icmp_ge (tgt := 40) C.1 C.2.1 dX12_feed_33 (by decide) (fun c33 => ?_) (fun c33 => ?_)
      · replace h := ipos c33 h
        refine lv_iload C.1 C.2.1 dX12_feed_40 (lv_at hl 6 rfl) ?_
        refine lv_bipush (v := 8) C.1 C.2.1 dX12_feed_42 (by decide) ?_
        refine lv_icmp_ge (tgt := 51) C.1 C.2.1 dX12_feed_44 (by decide) (fun c44 => ?_) (fun c44 => ?_)
        · replace h := ipos c44 h
          refine lv_iload C.1 C.2.1 dX12_feed_51 (lv_at hl 6 rfl) ?_
          refine lv_bipush (v := 12) C.1 C.2.1 dX12_feed_53 (by decide) ?_
          refine lv_icmp_ge (tgt := 62) C.1 C.2.1 dX12_feed_55 (by decide) (fun c55 => ?_) (fun c55 => ?_)
          · replace h := ipos c55 h
            refine lv_iload C.1 C.2.1 dX12_feed_62 (lv_at hl 6 rfl) ?_
            refine lv_bipush (v := 16) C.1 C.2.1 dX12_feed_64 (by decide) ?_
            refine lv_icmp_ge (tgt := 74) C.1 C.2.1 dX12_feed_66 (by decide) (fun c66 => ?_) (fun c66 => ?_)
            · replace h := ipos c66 h
              refine lv_iload C.1 C.2.1 dX12_feed_74 (lv_at hl 5 rfl) ?_
              exact w_X12_feed_76 C G ih X (lv_sub hl [0, 1, 2, 3, 4, 5, 6] rfl) h
            · replace h := ineg c66 h
              refine lv_iload C.1 C.2.1 dX12_feed_69 (lv_at hl 4 rfl) ?_
              refine lv_goto (tgt := 76) C.1 C.2.1 dX12_feed_71 (by decide) ?_
              exact w_X12_feed_76 C G ih X (lv_sub hl [0, 1, 2, 3, 4, 5, 6] rfl) h
          · replace h := ineg c55 h
            refine lv_iload_n C.1 C.2.1 dX12_feed_58 rfl (lv_at hl 3 rfl) ?_
            refine lv_goto (tgt := 76) C.1 C.2.1 dX12_feed_59 (by decide) ?_
            exact w_X12_feed_76 C G ih X (lv_sub hl [0, 1, 2, 3, 4, 5, 6] rfl) h
        · replace h := ineg c44 h
          refine lv_iload_n C.1 C.2.1 dX12_feed_47 rfl (lv_at hl 2 rfl) ?_
          refine lv_goto (tgt := 76) C.1 C.2.1 dX12_feed_48 (by decide) ?_
          exact w_X12_feed_76 C G ih X (lv_sub hl [0, 1, 2, 3, 4, 5, 6] rfl) h
      · replace h := ineg c33 h
        refine lv_iload_n C.1 C.2.1 dX12_feed_36 rfl (lv_at hl 1 rfl) ?_
        refine lv_goto (tgt := 76) C.1 C.2.1 dX12_feed_37 (by decide) ?_
        exact w_X12_feed_76 C G ih X (lv_sub hl [0, 1, 2, 3, 4, 5, 6] rfl) h

set_option maxRecDepth 20000 in
theorem w_X12_feed {r : (Int32 × Mem)} {σ : Mem} {x1 : Int32} {x2 : Int32} {x3 : Int32} {x4 : Int32} {x5 : Int32} {ls : Array Slot} {H : Heap} {locs : List Loc} (C : Cx p s m args meth c cX12_feed (some .int) 8 RX12) (G : Gf E s) (X : Hx E σ s H locs) (hl : lv_has ls 8 [(0, .ref (gB E + 399)), (1, .int x1), (2, .int x2), (3, .int x3), (4, .int x4), (5, .int x5)]) (h : X12_feed x1 x2 x3 x4 x5 σ = some r) : W p l e (RM 1) s m args below meth c H locs 0 0 (QI E below args s r.1 r.2) (F0 m 0 ls []) := by
  rw [X12_feed] at h
  refine lv_aload_n C.1 C.2.1 dX12_feed_0 rfl (lv_at hl 0 rfl) ?_
  refine lv_iconst (v := 0) C.1 C.2.1 dX12_feed_1 (by decide) ?_
  obtain ⟨σ2, e2, h⟩ := bnd h
  refine pfX12 C G X (k := 399) kd_399 0 (x := (0 : Int32)) (ty := .int) rfl rfl (Nat.le_of_ble_eq_true rfl) (by decide) k_1651 rfl rfl (by decide +kernel) rfl rfl dX12_feed_2 (fun H locs X => ?_)
  replace X := pu_x e2 X
  refine lv_aload_n C.1 C.2.1 dX12_feed_5 rfl (lv_at hl 0 rfl) ?_
  refine gfX12 C G X (k := 399) kd_399 8 (v := .int (σ2 399 8)) rfl rfl (by decide) k_1659 rfl dX12_feed_6 ?_
  refine lv_bipush (v := 20) C.1 C.2.1 dX12_feed_9 (by decide) ?_
  refine lv_iadd C.1 C.2.1 dX12_feed_11 ?_
  refine lv_sipush (v := 400) C.1 C.2.1 dX12_feed_12 (by decide) ?_
  refine lv_icmp_le (tgt := 20) C.1 C.2.1 dX12_feed_15 (by decide) (fun c15 => ?_) (fun c15 => ?_)
  · replace h := ipos c15 h
    refine lv_iconst (v := 0) C.1 C.2.1 dX12_feed_20 (by decide) ?_
    refine lv_istore (lv' := [(6, .int (0 : Int32)), (0, .ref (gB E + 399)), (1, .int x1), (2, .int x2), (3, .int x3), (4, .int x4), (5, .int x5)]) C.1 C.2.1 dX12_feed_21 hl (by decide) rfl (fun ls hl => ?_)
    exact w_X12_feed_23 C G FU X (lv_sub hl [1, 2, 3, 4, 5, 6, 0] rfl) h
  · replace h := ineg c15 h
    refine lv_iconst (v := -1) C.1 C.2.1 dX12_feed_18 (by decide) ?_
    rw [← Option.some.inj h]
    exact rtI C X dX12_feed_19

theorem c_X12_feed (l : Launch) (E : GE) {σ : Mem} {x1 : Int32} {x2 : Int32} {x3 : Int32} {x4 : Int32} {x5 : Int32} {r : (Int32 × Mem)} (h : X12_feed x1 x2 x3 x4 x5 σ = some r) : CtI l E yX12_feed cX12_feed 8 .int 1 [.ref (gB E + 399), .int x1, .int x2, .int x3, .int x4, .int x5] σ r.1 r.2 := by
  refine Met.ofW (cc := cX12_feed) (maxL := 8) (ret := (some .int)) (by decide) rfl ?_
  intro p e s m args below meth c s₁ B hml hv
  obtain ⟨rfl, G, X⟩ := start hv
  have C := cxof B hml
  have hl := lv_entry [.ref (gB E + 399), .int x1, .int x2, .int x3, .int x4, .int x5] (n := 8) (Nat.le_of_ble_eq_true rfl)
  rw [lg_entry_eq]
  generalize (lg_sl [.ref (gB E + 399), .int x1, .int x2, .int x3, .int x4, .int x5] ++ List.replicate (8 - (lg_sl [.ref (gB E + 399), .int x1, .int x2, .int x3, .int x4, .int x5]).length) Slot.unset).toArray = ls at hl ⊢
  exact w_X12_feed C G X hl h

set_option maxRecDepth 20000 in
theorem w_X12_end {r : (Int32 × Mem)} {σ : Mem} {x1 : Int32} {ls : Array Slot} {H : Heap} {locs : List Loc} (C : Cx p s m args meth c cX12_end (some .boolean) 2 RX12) (G : Gf E s) (X : Hx E σ s H locs) (hl : lv_has ls 2 [(0, .ref (gB E + 399)), (1, .int x1)]) (h : X12_end x1 σ = some r) : W p l e (RM 2) s m args below meth c H locs 0 0 (QI E below args s r.1 r.2) (F0 m 0 ls []) := by
  rw [X12_end] at h
  refine lv_aload_n C.1 C.2.1 dX12_end_0 rfl (lv_at hl 0 rfl) ?_
  refine lv_iconst (v := 0) C.1 C.2.1 dX12_end_1 (by decide) ?_
  obtain ⟨σ2, e2, h⟩ := bnd h
  refine pfX12 C G X (k := 399) kd_399 0 (x := (0 : Int32)) (ty := .int) rfl rfl (Nat.le_of_ble_eq_true rfl) (by decide) k_1651 rfl rfl (by decide +kernel) rfl rfl dX12_end_2 (fun H locs X => ?_)
  replace X := pu_x e2 X
  refine lv_iload_n C.1 C.2.1 dX12_end_5 rfl (lv_at hl 1 rfl) ?_
  refine lv_iconst (v := 0) C.1 C.2.1 dX12_end_6 (by decide) ?_
  refine lv_aload_n C.1 C.2.1 dX12_end_7 rfl (lv_at hl 0 rfl) ?_
  refine gfX12 C G X (k := 399) kd_399 8 (v := .int (σ2 399 8)) rfl rfl (by decide) k_1659 rfl dX12_end_8 ?_
  obtain ⟨r11, e11, h⟩ := bnd h
  refine afI X (runS C G X q_X12_isIn k_1734 k_1733 (c_X12_isIn l E e11) rfl hl.1 rfl (Nat.le_of_ble_eq_true rfl) ⟨Nat.le_of_ble_eq_true rfl, Nat.le_of_ble_eq_true rfl⟩ ⟨Nat.le_of_ble_eq_true rfl, Nat.le_of_ble_eq_true rfl⟩ dX12_end_11) (fun H locs X => ?_)
  refine lv_if_ne (tgt := 19) C.1 C.2.1 dX12_end_14 (by decide) (fun c14 => ?_) (fun c14 => ?_)
  · replace h := ineg c14 h
    refine lv_aload_n C.1 C.2.1 dX12_end_19 rfl (lv_at hl 0 rfl) ?_
    refine lv_iload_n C.1 C.2.1 dX12_end_20 rfl (lv_at hl 1 rfl) ?_
    obtain ⟨σ21, e21, h⟩ := bnd h
    refine pfX12 C G X (k := 399) kd_399 8 (x := x1) (ty := .int) rfl rfl (Nat.le_of_ble_eq_true rfl) (by decide) k_1659 rfl rfl (by decide +kernel) rfl rfl dX12_end_21 (fun H locs X => ?_)
    replace X := pu_x e21 X
    refine lv_iconst (v := 1) C.1 C.2.1 dX12_end_24 (by decide) ?_
    obtain ⟨u25, z25, h⟩ := bnd h
    rw [← Option.some.inj h]
    exact rtZ C X (gb_s z25) dX12_end_25
  · replace h := ipos c14 h
    refine lv_iconst (v := 0) C.1 C.2.1 dX12_end_17 (by decide) ?_
    obtain ⟨u18, z18, h⟩ := bnd h
    rw [← Option.some.inj h]
    exact rtZ C X (gb_s z18) dX12_end_18

theorem c_X12_end (l : Launch) (E : GE) {σ : Mem} {x1 : Int32} {r : (Int32 × Mem)} (h : X12_end x1 σ = some r) : CtI l E yX12_end cX12_end 2 .boolean 2 [.ref (gB E + 399), .int x1] σ r.1 r.2 := by
  refine Met.ofW (cc := cX12_end) (maxL := 2) (ret := (some .boolean)) (by decide) rfl ?_
  intro p e s m args below meth c s₁ B hml hv
  obtain ⟨rfl, G, X⟩ := start hv
  have C := cxof B hml
  have hl := lv_entry [.ref (gB E + 399), .int x1] (n := 2) (Nat.le_of_ble_eq_true rfl)
  rw [lg_entry_eq]
  generalize (lg_sl [.ref (gB E + 399), .int x1] ++ List.replicate (2 - (lg_sl [.ref (gB E + 399), .int x1]).length) Slot.unset).toArray = ls at hl ⊢
  exact w_X12_end C G X hl h

set_option maxRecDepth 20000 in
theorem w_X12_letter {r : Int32} {σ : Mem} {x1 : Int32} {ls : Array Slot} {H : Heap} {locs : List Loc} (C : Cx p s m args meth c cX12_letter (some .int) 2 RX12) (G : Gf E s) (X : Hx E σ s H locs) (hl : lv_has ls 2 [(0, .ref (gB E + 399)), (1, .int x1)]) (h : X12_letter σ x1 = some r) : W p l e (RM 1) s m args below meth c H locs 0 0 (QI E below args s r σ) (F0 m 0 ls []) := by
  rw [X12_letter] at h
  refine lv_aload_n C.1 C.2.1 dX12_letter_0 rfl (lv_at hl 0 rfl) ?_
  refine gfX12 C G X (k := 399) kd_399 9 (v := .int (σ 399 9)) rfl rfl (by decide) k_1660 rfl dX12_letter_1 ?_
  refine lv_iconst (v := -1) C.1 C.2.1 dX12_letter_4 (by decide) ?_
  refine lv_icmp_ne (tgt := 17) C.1 C.2.1 dX12_letter_5 (by decide) (fun c5 => ?_) (fun c5 => ?_)
  · replace h := ineg c5 h
    refine lv_aload_n C.1 C.2.1 dX12_letter_17 rfl (lv_at hl 0 rfl) ?_
    refine gfX12 C G X (k := 399) kd_399 1 (v := .ref (gB E + 400)) rfl rfl (by decide) k_1652 rfl dX12_letter_18 ?_
    refine lv_aload_n C.1 C.2.1 dX12_letter_21 rfl (lv_at hl 0 rfl) ?_
    refine gfX12 C G X (k := 399) kd_399 9 (v := .int (σ 399 9)) rfl rfl (by decide) k_1660 rfl dX12_letter_22 ?_
    refine lv_iload_n C.1 C.2.1 dX12_letter_25 rfl (lv_at hl 1 rfl) ?_
    refine lv_iadd C.1 C.2.1 dX12_letter_26 ?_
    obtain ⟨r27, e27, h⟩ := bnd h
    refine ald C G X (k := 400) kd_400 (ag_s e27).1 dX12_letter_27 ?_
    rw [(ag_s e27).2]
    rw [← Option.some.inj h]
    exact rtI C X dX12_letter_28
  · replace h := ipos c5 h
    refine lv_aload_n C.1 C.2.1 dX12_letter_8 rfl (lv_at hl 0 rfl) ?_
    refine gfX12 C G X (k := 399) kd_399 7 (v := .ref (gB E + 404)) rfl rfl (by decide) k_1658 rfl dX12_letter_9 ?_
    refine lv_iload_n C.1 C.2.1 dX12_letter_12 rfl (lv_at hl 1 rfl) ?_
    obtain ⟨r13, e13, h⟩ := bnd h
    refine ald C G X (k := 404) kd_404 (ag_s e13).1 dX12_letter_13 ?_
    rw [(ag_s e13).2]
    refine lv_goto (tgt := 28) C.1 C.2.1 dX12_letter_14 (by decide) ?_
    rw [← Option.some.inj h]
    exact rtI C X dX12_letter_28

theorem c_X12_letter (l : Launch) (E : GE) {σ : Mem} {x1 : Int32} {r : Int32} (h : X12_letter σ x1 = some r) : CtI l E yX12_letter cX12_letter 2 .int 1 [.ref (gB E + 399), .int x1] σ r σ := by
  refine Met.ofW (cc := cX12_letter) (maxL := 2) (ret := (some .int)) (by decide) rfl ?_
  intro p e s m args below meth c s₁ B hml hv
  obtain ⟨rfl, G, X⟩ := start hv
  have C := cxof B hml
  have hl := lv_entry [.ref (gB E + 399), .int x1] (n := 2) (Nat.le_of_ble_eq_true rfl)
  rw [lg_entry_eq]
  generalize (lg_sl [.ref (gB E + 399), .int x1] ++ List.replicate (2 - (lg_sl [.ref (gB E + 399), .int x1]).length) Slot.unset).toArray = ls at hl ⊢
  exact w_X12_letter C G X hl h

set_option maxRecDepth 20000 in
theorem w_X12_skip_0 {r : Mem} (C : Cx p s m args meth c cX12_skip none 1 RX12) (G : Gf E s) : ∀ (f : Nat) {σ : Mem} {ls : Array Slot} {H : Heap} {locs : List Loc}, Hx E σ s H locs → lv_has ls 1 [(0, .ref (gB E + 399))] → X12_skip_0 f σ = some r → W p l e (RM 2) s m args below meth c H locs 0 0 (QV E below args s r) (F0 m 0 ls []) := by
  intro f
  induction f with
  | zero =>
    intro σ ls H locs X hl h
    rw [X12_skip_0] at h
    cases h
  | succ f ih =>
    intro σ ls H locs X hl h
    rw [X12_skip_0] at h
    refine lv_aload_n C.1 C.2.1 dX12_skip_0 rfl (lv_at hl 0 rfl) ?_
    refine gfX12 C G X (k := 399) kd_399 11 (v := .int (σ 399 11)) rfl rfl (by decide) k_1662 rfl dX12_skip_1 ?_
    refine lv_aload_n C.1 C.2.1 dX12_skip_4 rfl (lv_at hl 0 rfl) ?_
    refine gfX12 C G X (k := 399) kd_399 10 (v := .int (σ 399 10)) rfl rfl (by decide) k_1661 rfl dX12_skip_5 ?_
    refine lv_icmp_ge (tgt := 37) C.1 C.2.1 dX12_skip_8 (by decide) (fun c8 => ?_) (fun c8 => ?_)
    · replace h := ipos c8 h
      rw [← Option.some.inj h]
      exact rtV C X dX12_skip_37
    · replace h := ineg c8 h
      refine lv_aload_n C.1 C.2.1 dX12_skip_11 rfl (lv_at hl 0 rfl) ?_
      refine lv_aload_n C.1 C.2.1 dX12_skip_12 rfl (lv_at hl 0 rfl) ?_
      refine gfX12 C G X (k := 399) kd_399 11 (v := .int (σ 399 11)) rfl rfl (by decide) k_1662 rfl dX12_skip_13 ?_
      obtain ⟨r16, e16, h⟩ := bnd h
      refine afI X (runV C G X q_X12_letter k_1758 kp_30 k_1756 (rcX12 G X kd_399) (c_X12_letter l E e16) rfl hl.1 rfl (Nat.le_of_ble_eq_true rfl) ⟨Nat.le_of_ble_eq_true rfl, Nat.le_of_ble_eq_true rfl⟩ ⟨Nat.le_of_ble_eq_true rfl, Nat.le_of_ble_eq_true rfl⟩ dX12_skip_16) (fun H locs X => ?_)
      refine lv_bipush (v := 32) C.1 C.2.1 dX12_skip_19 (by decide) ?_
      refine lv_icmp_ne (tgt := 37) C.1 C.2.1 dX12_skip_21 (by decide) (fun c21 => ?_) (fun c21 => ?_)
      · replace h := ineg c21 h
        rw [← Option.some.inj h]
        exact rtV C X dX12_skip_37
      · replace h := ipos c21 h
        refine lv_aload_n C.1 C.2.1 dX12_skip_24 rfl (lv_at hl 0 rfl) ?_
        refine lv_dup C.1 C.2.1 dX12_skip_25 rfl ?_
        refine gfX12 C G X (k := 399) kd_399 11 (v := .int (σ 399 11)) rfl rfl (by decide) k_1662 rfl dX12_skip_26 ?_
        refine lv_iconst (v := 1) C.1 C.2.1 dX12_skip_29 (by decide) ?_
        refine lv_iadd C.1 C.2.1 dX12_skip_30 ?_
        obtain ⟨σ31, e31, h⟩ := bnd h
        refine pfX12 C G X (k := 399) kd_399 11 (x := ((σ 399 11) + (1 : Int32))) (ty := .int) rfl rfl (Nat.le_of_ble_eq_true rfl) (by decide) k_1662 rfl rfl (by decide +kernel) rfl rfl dX12_skip_31 (fun H locs X => ?_)
        replace X := pu_x e31 X
        refine lv_goto (tgt := 0) C.1 C.2.1 dX12_skip_34 (by decide) ?_
        exact ih X (lv_sub hl [0] rfl) h

theorem c_X12_skip (l : Launch) (E : GE) {σ : Mem} {r : Mem} (h : X12_skip σ = some r) : CtV l E yX12_skip cX12_skip 1 2 [.ref (gB E + 399)] σ r := by
  refine Met.ofW (cc := cX12_skip) (maxL := 1) (ret := none) (by decide) rfl ?_
  intro p e s m args below meth c s₁ B hml hv
  obtain ⟨rfl, G, X⟩ := start hv
  have C := cxof B hml
  have hl := lv_entry [.ref (gB E + 399)] (n := 1) (Nat.le_of_ble_eq_true rfl)
  rw [lg_entry_eq]
  generalize (lg_sl [.ref (gB E + 399)] ++ List.replicate (1 - (lg_sl [.ref (gB E + 399)]).length) Slot.unset).toArray = ls at hl ⊢
  exact w_X12_skip_0 C G FU X hl h

set_option maxRecDepth 20000 in
theorem w_X12_isSign {r : (Int32 × Mem)} {σ : Mem} {x1 : Int32} {ls : Array Slot} {H : Heap} {locs : List Loc} (C : Cx p s m args meth c cX12_isSign (some .boolean) 2 RX12) (G : Gf E s) (X : Hx E σ s H locs) (hl : lv_has ls 2 [(0, .ref (gB E + 399)), (1, .int x1)]) (h : X12_isSign x1 σ = some r) : W p l e (RM 3) s m args below meth c H locs 0 0 (QI E below args s r.1 r.2) (F0 m 0 ls []) := by
  rw [X12_isSign] at h
  refine lv_aload_n C.1 C.2.1 dX12_isSign_0 rfl (lv_at hl 0 rfl) ?_
  obtain ⟨σ1, e1, h⟩ := bnd h
  refine afV X (runV C G X q_X12_skip k_1754 kp_29 k_1752 (rcX12 G X kd_399) (c_X12_skip l E e1) rfl hl.1 rfl (Nat.le_of_ble_eq_true rfl) ⟨Nat.le_of_ble_eq_true rfl, Nat.le_of_ble_eq_true rfl⟩ ⟨Nat.le_of_ble_eq_true rfl, Nat.le_of_ble_eq_true rfl⟩ dX12_isSign_1) (fun H locs X => ?_)
  refine lv_aload_n C.1 C.2.1 dX12_isSign_4 rfl (lv_at hl 0 rfl) ?_
  refine gfX12 C G X (k := 399) kd_399 11 (v := .int (σ1 399 11)) rfl rfl (by decide) k_1662 rfl dX12_isSign_5 ?_
  refine lv_aload_n C.1 C.2.1 dX12_isSign_8 rfl (lv_at hl 0 rfl) ?_
  refine gfX12 C G X (k := 399) kd_399 10 (v := .int (σ1 399 10)) rfl rfl (by decide) k_1661 rfl dX12_isSign_9 ?_
  refine lv_icmp_ge (tgt := 31) C.1 C.2.1 dX12_isSign_12 (by decide) (fun c12 => ?_) (fun c12 => ?_)
  · replace h := ipos c12 h
    refine lv_iconst (v := 0) C.1 C.2.1 dX12_isSign_31 (by decide) ?_
    obtain ⟨u32, z32, h⟩ := bnd h
    rw [← Option.some.inj h]
    exact rtZ C X (gb_s z32) dX12_isSign_32
  · replace h := ineg c12 h
    refine lv_aload_n C.1 C.2.1 dX12_isSign_15 rfl (lv_at hl 0 rfl) ?_
    refine lv_aload_n C.1 C.2.1 dX12_isSign_16 rfl (lv_at hl 0 rfl) ?_
    refine gfX12 C G X (k := 399) kd_399 11 (v := .int (σ1 399 11)) rfl rfl (by decide) k_1662 rfl dX12_isSign_17 ?_
    obtain ⟨r20, e20, h⟩ := bnd h
    refine afI X (runV C G X q_X12_letter k_1758 kp_30 k_1756 (rcX12 G X kd_399) (c_X12_letter l E e20) rfl hl.1 rfl (Nat.le_of_ble_eq_true rfl) ⟨Nat.le_of_ble_eq_true rfl, Nat.le_of_ble_eq_true rfl⟩ ⟨Nat.le_of_ble_eq_true rfl, Nat.le_of_ble_eq_true rfl⟩ dX12_isSign_20) (fun H locs X => ?_)
    refine lv_iload_n C.1 C.2.1 dX12_isSign_23 rfl (lv_at hl 1 rfl) ?_
    refine lv_icmp_ne (tgt := 31) C.1 C.2.1 dX12_isSign_24 (by decide) (fun c24 => ?_) (fun c24 => ?_)
    · replace h := ineg c24 h
      refine lv_iconst (v := 0) C.1 C.2.1 dX12_isSign_31 (by decide) ?_
      obtain ⟨u32, z32, h⟩ := bnd h
      rw [← Option.some.inj h]
      exact rtZ C X (gb_s z32) dX12_isSign_32
    · replace h := ipos c24 h
      refine lv_iconst (v := 1) C.1 C.2.1 dX12_isSign_27 (by decide) ?_
      refine lv_goto (tgt := 32) C.1 C.2.1 dX12_isSign_28 (by decide) ?_
      obtain ⟨u32, z32, h⟩ := bnd h
      rw [← Option.some.inj h]
      exact rtZ C X (gb_s z32) dX12_isSign_32

theorem c_X12_isSign (l : Launch) (E : GE) {σ : Mem} {x1 : Int32} {r : (Int32 × Mem)} (h : X12_isSign x1 σ = some r) : CtI l E yX12_isSign cX12_isSign 2 .boolean 3 [.ref (gB E + 399), .int x1] σ r.1 r.2 := by
  refine Met.ofW (cc := cX12_isSign) (maxL := 2) (ret := (some .boolean)) (by decide) rfl ?_
  intro p e s m args below meth c s₁ B hml hv
  obtain ⟨rfl, G, X⟩ := start hv
  have C := cxof B hml
  have hl := lv_entry [.ref (gB E + 399), .int x1] (n := 2) (Nat.le_of_ble_eq_true rfl)
  rw [lg_entry_eq]
  generalize (lg_sl [.ref (gB E + 399), .int x1] ++ List.replicate (2 - (lg_sl [.ref (gB E + 399), .int x1]).length) Slot.unset).toArray = ls at hl ⊢
  exact w_X12_isSign C G X hl h

set_option maxRecDepth 20000 in
theorem w_X12_has_55 {r : (Int32 × Mem)} (C : Cx p s m args meth c cX12_has (some .boolean) 4 RX12) (G : Gf E s) : ∀ (f : Nat) {s1 : Nat} {x2 : Int32} {x3 : Int32} {σ : Mem} {ls : Array Slot} {H : Heap} {locs : List Loc}, Hx E σ s H locs → lv_has ls 4 [(0, .ref (gB E + 399)), (1, .ref (gK E s1)), (2, .int x2), (3, .int x3)] → X12_has_55 f s1 x2 x3 σ = some r → W p l e (RM 9) s m args below meth c H locs 0 0 (QI E below args s r.1 r.2) (F0 m 55 ls []) := by
  intro f
  induction f with
  | zero =>
    intro s1 x2 x3 σ ls H locs X hl h
    rw [X12_has_55] at h
    cases h
  | succ f ih =>
    intro s1 x2 x3 σ ls H locs X hl h
    rw [X12_has_55] at h
    refine lv_iload_n C.1 C.2.1 dX12_has_55 rfl (lv_at hl 3 rfl) ?_
    refine lv_aload_n C.1 C.2.1 dX12_has_56 rfl (lv_at hl 1 rfl) ?_
    obtain ⟨u57, rz57, h⟩ := bnd h
    obtain ⟨r57, e57, h⟩ := bnd h
    refine afI X (runV C G X q_slen k_841 k_842 k_1773 (rcS G X rz57) (c_slen l E e57) rfl hl.1 rfl (Nat.le_of_ble_eq_true rfl) ⟨Nat.le_of_ble_eq_true rfl, Nat.le_of_ble_eq_true rfl⟩ ⟨Nat.le_of_ble_eq_true rfl, Nat.le_of_ble_eq_true rfl⟩ dX12_has_57) (fun H locs X => ?_)
    refine lv_icmp_ge (tgt := 89) C.1 C.2.1 dX12_has_60 (by decide) (fun c60 => ?_) (fun c60 => ?_)
    · replace h := ipos c60 h
      refine lv_aload_n C.1 C.2.1 dX12_has_89 rfl (lv_at hl 0 rfl) ?_
      refine lv_iload_n C.1 C.2.1 dX12_has_90 rfl (lv_at hl 2 rfl) ?_
      obtain ⟨σ91, e91, h⟩ := bnd h
      refine pfX12 C G X (k := 399) kd_399 11 (x := x2) (ty := .int) rfl rfl (Nat.le_of_ble_eq_true rfl) (by decide) k_1662 rfl rfl (by decide +kernel) rfl rfl dX12_has_91 (fun H locs X => ?_)
      replace X := pu_x e91 X
      refine lv_iconst (v := 1) C.1 C.2.1 dX12_has_94 (by decide) ?_
      obtain ⟨u95, z95, h⟩ := bnd h
      rw [← Option.some.inj h]
      exact rtZ C X (gb_s z95) dX12_has_95
    · replace h := ineg c60 h
      refine lv_aload_n C.1 C.2.1 dX12_has_63 rfl (lv_at hl 0 rfl) ?_
      refine lv_aload_n C.1 C.2.1 dX12_has_64 rfl (lv_at hl 0 rfl) ?_
      refine gfX12 C G X (k := 399) kd_399 11 (v := .int (σ 399 11)) rfl rfl (by decide) k_1662 rfl dX12_has_65 ?_
      refine lv_iload_n C.1 C.2.1 dX12_has_68 rfl (lv_at hl 3 rfl) ?_
      refine lv_iadd C.1 C.2.1 dX12_has_69 ?_
      obtain ⟨r70, e70, h⟩ := bnd h
      refine afI X (runV C G X q_X12_letter k_1758 kp_30 k_1756 (rcX12 G X kd_399) (c_X12_letter l E e70) rfl hl.1 rfl (Nat.le_of_ble_eq_true rfl) ⟨Nat.le_of_ble_eq_true rfl, Nat.le_of_ble_eq_true rfl⟩ ⟨Nat.le_of_ble_eq_true rfl, Nat.le_of_ble_eq_true rfl⟩ dX12_has_70) (fun H locs X => ?_)
      refine lv_aload_n C.1 C.2.1 dX12_has_73 rfl (lv_at hl 1 rfl) ?_
      refine lv_iload_n C.1 C.2.1 dX12_has_74 rfl (lv_at hl 3 rfl) ?_
      obtain ⟨u75, rz75, h⟩ := bnd h
      obtain ⟨r75, e75, h⟩ := bnd h
      refine afI X (runV C G X q_scha k_851 k_852 k_1774 (rcS G X rz75) (c_scha l E e75) rfl hl.1 rfl (Nat.le_of_ble_eq_true rfl) ⟨Nat.le_of_ble_eq_true rfl, Nat.le_of_ble_eq_true rfl⟩ ⟨Nat.le_of_ble_eq_true rfl, Nat.le_of_ble_eq_true rfl⟩ dX12_has_75) (fun H locs X => ?_)
      refine lv_icmp_eq (tgt := 83) C.1 C.2.1 dX12_has_78 (by decide) (fun c78 => ?_) (fun c78 => ?_)
      · replace h := ipos c78 h
        refine lv_iinc (v := (x3 + 1)) (lv' := [(3, .int (x3 + 1)), (0, .ref (gB E + 399)), (1, .ref (gK E s1)), (2, .int x2)]) C.1 C.2.1 dX12_has_83 hl (k := 3) rfl rfl (by decide) rfl (fun ls hl => ?_)
        refine lv_goto (tgt := 55) C.1 C.2.1 dX12_has_86 (by decide) ?_
        exact ih X (lv_sub hl [1, 2, 3, 0] rfl) h
      · replace h := ineg c78 h
        refine lv_iconst (v := 0) C.1 C.2.1 dX12_has_81 (by decide) ?_
        obtain ⟨u82, z82, h⟩ := bnd h
        rw [← Option.some.inj h]
        exact rtZ C X (gb_s z82) dX12_has_82

set_option maxRecDepth 20000 in
theorem w_X12_has_38 {r : (Int32 × Mem)} {σ : Mem} {s1 : Nat} {x2 : Int32} {ls : Array Slot} {H : Heap} {locs : List Loc} (C : Cx p s m args meth c cX12_has (some .boolean) 4 RX12) (G : Gf E s) (X : Hx E σ s H locs) (hl : lv_has ls 4 [(0, .ref (gB E + 399)), (1, .ref (gK E s1)), (2, .int x2)]) (h : X12_has_38 s1 x2 σ = some r) : W p l e (RM 9) s m args below meth c H locs 0 0 (QI E below args s r.1 r.2) (F0 m 38 ls []) := by
  rw [X12_has_38] at h
  refine lv_iload_n C.1 C.2.1 dX12_has_38 rfl (lv_at hl 2 rfl) ?_
  refine lv_aload_n C.1 C.2.1 dX12_has_39 rfl (lv_at hl 0 rfl) ?_
  refine gfX12 C G X (k := 399) kd_399 11 (v := .int (σ 399 11)) rfl rfl (by decide) k_1662 rfl dX12_has_40 ?_
  refine lv_isub C.1 C.2.1 dX12_has_43 ?_
  refine lv_aload_n C.1 C.2.1 dX12_has_44 rfl (lv_at hl 1 rfl) ?_
  obtain ⟨u45, rz45, h⟩ := bnd h
  obtain ⟨r45, e45, h⟩ := bnd h
  refine afI X (runV C G X q_slen k_841 k_842 k_1773 (rcS G X rz45) (c_slen l E e45) rfl hl.1 rfl (Nat.le_of_ble_eq_true rfl) ⟨Nat.le_of_ble_eq_true rfl, Nat.le_of_ble_eq_true rfl⟩ ⟨Nat.le_of_ble_eq_true rfl, Nat.le_of_ble_eq_true rfl⟩ dX12_has_45) (fun H locs X => ?_)
  refine lv_icmp_eq (tgt := 53) C.1 C.2.1 dX12_has_48 (by decide) (fun c48 => ?_) (fun c48 => ?_)
  · replace h := ipos c48 h
    refine lv_iconst (v := 0) C.1 C.2.1 dX12_has_53 (by decide) ?_
    refine lv_istore_n (lv' := [(3, .int (0 : Int32)), (0, .ref (gB E + 399)), (1, .ref (gK E s1)), (2, .int x2)]) C.1 C.2.1 dX12_has_54 rfl hl (by decide) rfl (fun ls hl => ?_)
    exact w_X12_has_55 C G FU X (lv_sub hl [1, 2, 3, 0] rfl) h
  · replace h := ineg c48 h
    refine lv_iconst (v := 0) C.1 C.2.1 dX12_has_51 (by decide) ?_
    obtain ⟨u52, z52, h⟩ := bnd h
    rw [← Option.some.inj h]
    exact rtZ C X (gb_s z52) dX12_has_52

set_option maxRecDepth 20000 in
theorem w_X12_has_9 {r : (Int32 × Mem)} (C : Cx p s m args meth c cX12_has (some .boolean) 4 RX12) (G : Gf E s) : ∀ (f : Nat) {s1 : Nat} {x2 : Int32} {σ : Mem} {ls : Array Slot} {H : Heap} {locs : List Loc}, Hx E σ s H locs → lv_has ls 4 [(0, .ref (gB E + 399)), (1, .ref (gK E s1)), (2, .int x2)] → X12_has_9 f s1 x2 σ = some r → W p l e (RM 9) s m args below meth c H locs 0 0 (QI E below args s r.1 r.2) (F0 m 9 ls []) := by
  intro f
  induction f with
  | zero =>
    intro s1 x2 σ ls H locs X hl h
    rw [X12_has_9] at h
    cases h
  | succ f ih =>
    intro s1 x2 σ ls H locs X hl h
    rw [X12_has_9] at h
    refine lv_iload_n C.1 C.2.1 dX12_has_9 rfl (lv_at hl 2 rfl) ?_
    refine lv_aload_n C.1 C.2.1 dX12_has_10 rfl (lv_at hl 0 rfl) ?_
    refine gfX12 C G X (k := 399) kd_399 10 (v := .int (σ 399 10)) rfl rfl (by decide) k_1661 rfl dX12_has_11 ?_
    refine lv_icmp_ge (tgt := 38) C.1 C.2.1 dX12_has_14 (by decide) (fun c14 => ?_) (fun c14 => ?_)
    · replace h := ipos c14 h
      exact w_X12_has_38 C G X (lv_sub hl [0, 1, 2] rfl) h
    · replace h := ineg c14 h
      refine lv_aload_n C.1 C.2.1 dX12_has_17 rfl (lv_at hl 0 rfl) ?_
      refine lv_iload_n C.1 C.2.1 dX12_has_18 rfl (lv_at hl 2 rfl) ?_
      obtain ⟨r19, e19, h⟩ := bnd h
      refine afI X (runV C G X q_X12_letter k_1758 kp_30 k_1756 (rcX12 G X kd_399) (c_X12_letter l E e19) rfl hl.1 rfl (Nat.le_of_ble_eq_true rfl) ⟨Nat.le_of_ble_eq_true rfl, Nat.le_of_ble_eq_true rfl⟩ ⟨Nat.le_of_ble_eq_true rfl, Nat.le_of_ble_eq_true rfl⟩ dX12_has_19) (fun H locs X => ?_)
      refine lv_bipush (v := 97) C.1 C.2.1 dX12_has_22 (by decide) ?_
      refine lv_bipush (v := 122) C.1 C.2.1 dX12_has_24 (by decide) ?_
      obtain ⟨r26, e26, h⟩ := bnd h
      refine afI X (runS C G X q_X12_isIn k_1734 k_1733 (c_X12_isIn l E e26) rfl hl.1 rfl (Nat.le_of_ble_eq_true rfl) ⟨Nat.le_of_ble_eq_true rfl, Nat.le_of_ble_eq_true rfl⟩ ⟨Nat.le_of_ble_eq_true rfl, Nat.le_of_ble_eq_true rfl⟩ dX12_has_26) (fun H locs X => ?_)
      refine lv_if_eq (tgt := 38) C.1 C.2.1 dX12_has_29 (by decide) (fun c29 => ?_) (fun c29 => ?_)
      · replace h := ipos c29 h
        exact w_X12_has_38 C G X (lv_sub hl [0, 1, 2] rfl) h
      · replace h := ineg c29 h
        refine lv_iinc (v := (x2 + 1)) (lv' := [(2, .int (x2 + 1)), (0, .ref (gB E + 399)), (1, .ref (gK E s1))]) C.1 C.2.1 dX12_has_32 hl (k := 2) rfl rfl (by decide) rfl (fun ls hl => ?_)
        refine lv_goto (tgt := 9) C.1 C.2.1 dX12_has_35 (by decide) ?_
        exact ih X (lv_sub hl [1, 2, 0] rfl) h

set_option maxRecDepth 20000 in
theorem w_X12_has {r : (Int32 × Mem)} {σ : Mem} {s1 : Nat} {ls : Array Slot} {H : Heap} {locs : List Loc} (C : Cx p s m args meth c cX12_has (some .boolean) 4 RX12) (G : Gf E s) (X : Hx E σ s H locs) (hl : lv_has ls 4 [(0, .ref (gB E + 399)), (1, .ref (gK E s1))]) (h : X12_has s1 σ = some r) : W p l e (RM 9) s m args below meth c H locs 0 0 (QI E below args s r.1 r.2) (F0 m 0 ls []) := by
  rw [X12_has] at h
  refine lv_aload_n C.1 C.2.1 dX12_has_0 rfl (lv_at hl 0 rfl) ?_
  obtain ⟨σ1, e1, h⟩ := bnd h
  refine afV X (runV C G X q_X12_skip k_1754 kp_29 k_1752 (rcX12 G X kd_399) (c_X12_skip l E e1) rfl hl.1 rfl (Nat.le_of_ble_eq_true rfl) ⟨Nat.le_of_ble_eq_true rfl, Nat.le_of_ble_eq_true rfl⟩ ⟨Nat.le_of_ble_eq_true rfl, Nat.le_of_ble_eq_true rfl⟩ dX12_has_1) (fun H locs X => ?_)
  refine lv_aload_n C.1 C.2.1 dX12_has_4 rfl (lv_at hl 0 rfl) ?_
  refine gfX12 C G X (k := 399) kd_399 11 (v := .int (σ1 399 11)) rfl rfl (by decide) k_1662 rfl dX12_has_5 ?_
  refine lv_istore_n (lv' := [(2, .int (σ1 399 11)), (0, .ref (gB E + 399)), (1, .ref (gK E s1))]) C.1 C.2.1 dX12_has_8 rfl hl (by decide) rfl (fun ls hl => ?_)
  exact w_X12_has_9 C G FU X (lv_sub hl [1, 2, 0] rfl) h

theorem c_X12_has (l : Launch) (E : GE) {σ : Mem} {s1 : Nat} {r : (Int32 × Mem)} (h : X12_has s1 σ = some r) : CtI l E yX12_has cX12_has 4 .boolean 9 [.ref (gB E + 399), .ref (gK E s1)] σ r.1 r.2 := by
  refine Met.ofW (cc := cX12_has) (maxL := 4) (ret := (some .boolean)) (by decide) rfl ?_
  intro p e s m args below meth c s₁ B hml hv
  obtain ⟨rfl, G, X⟩ := start hv
  have C := cxof B hml
  have hl := lv_entry [.ref (gB E + 399), .ref (gK E s1)] (n := 4) (Nat.le_of_ble_eq_true rfl)
  rw [lg_entry_eq]
  generalize (lg_sl [.ref (gB E + 399), .ref (gK E s1)] ++ List.replicate (4 - (lg_sl [.ref (gB E + 399), .ref (gK E s1)]).length) Slot.unset).toArray = ls at hl ⊢
  exact w_X12_has C G X hl h

set_option maxRecDepth 20000 in
theorem w_X12_wrong {r : Mem} {σ : Mem} {x1 : Int32} {ls : Array Slot} {H : Heap} {locs : List Loc} (C : Cx p s m args meth c cX12_wrong none 2 RX12) (G : Gf E s) (X : Hx E σ s H locs) (hl : lv_has ls 2 [(0, .ref (gB E + 399)), (1, .int x1)]) (h : X12_wrong x1 σ = some r) : W p l e (RM 1) s m args below meth c H locs 0 0 (QV E below args s r) (F0 m 0 ls []) := by
  rw [X12_wrong] at h
  refine lv_aload_n C.1 C.2.1 dX12_wrong_0 rfl (lv_at hl 0 rfl) ?_
  refine gfX12 C G X (k := 399) kd_399 12 (v := .int (σ 399 12)) rfl rfl (by decide) k_1663 rfl dX12_wrong_1 ?_
  refine lv_iconst (v := -1) C.1 C.2.1 dX12_wrong_4 (by decide) ?_
  refine lv_icmp_ne (tgt := 13) C.1 C.2.1 dX12_wrong_5 (by decide) (fun c5 => ?_) (fun c5 => ?_)
  · replace h := ineg c5 h
    rw [← Option.some.inj h]
    exact rtV C X dX12_wrong_13
  · replace h := ipos c5 h
    refine lv_aload_n C.1 C.2.1 dX12_wrong_8 rfl (lv_at hl 0 rfl) ?_
    refine lv_iload_n C.1 C.2.1 dX12_wrong_9 rfl (lv_at hl 1 rfl) ?_
    obtain ⟨σ10, e10, h⟩ := bnd h
    refine pfX12 C G X (k := 399) kd_399 12 (x := x1) (ty := .int) rfl rfl (Nat.le_of_ble_eq_true rfl) (by decide) k_1663 rfl rfl (by decide +kernel) rfl rfl dX12_wrong_10 (fun H locs X => ?_)
    replace X := pu_x e10 X
    rw [← Option.some.inj h]
    exact rtV C X dX12_wrong_13

theorem c_X12_wrong (l : Launch) (E : GE) {σ : Mem} {x1 : Int32} {r : Mem} (h : X12_wrong x1 σ = some r) : CtV l E yX12_wrong cX12_wrong 2 1 [.ref (gB E + 399), .int x1] σ r := by
  refine Met.ofW (cc := cX12_wrong) (maxL := 2) (ret := none) (by decide) rfl ?_
  intro p e s m args below meth c s₁ B hml hv
  obtain ⟨rfl, G, X⟩ := start hv
  have C := cxof B hml
  have hl := lv_entry [.ref (gB E + 399), .int x1] (n := 2) (Nat.le_of_ble_eq_true rfl)
  rw [lg_entry_eq]
  generalize (lg_sl [.ref (gB E + 399), .int x1] ++ List.replicate (2 - (lg_sl [.ref (gB E + 399), .int x1]).length) Slot.unset).toArray = ls at hl ⊢
  exact w_X12_wrong C G X hl h

set_option maxRecDepth 20000 in
theorem w_X12_here {r : (Int32 × Mem)} {σ : Mem} {ls : Array Slot} {H : Heap} {locs : List Loc} (C : Cx p s m args meth c cX12_here (some .int) 1 RX12) (G : Gf E s) (X : Hx E σ s H locs) (hl : lv_has ls 1 [(0, .ref (gB E + 399))]) (h : X12_here σ = some r) : W p l e (RM 3) s m args below meth c H locs 0 0 (QI E below args s r.1 r.2) (F0 m 0 ls []) := by
  rw [X12_here] at h
  refine lv_aload_n C.1 C.2.1 dX12_here_0 rfl (lv_at hl 0 rfl) ?_
  obtain ⟨σ1, e1, h⟩ := bnd h
  refine afV X (runV C G X q_X12_skip k_1754 kp_29 k_1752 (rcX12 G X kd_399) (c_X12_skip l E e1) rfl hl.1 rfl (Nat.le_of_ble_eq_true rfl) ⟨Nat.le_of_ble_eq_true rfl, Nat.le_of_ble_eq_true rfl⟩ ⟨Nat.le_of_ble_eq_true rfl, Nat.le_of_ble_eq_true rfl⟩ dX12_here_1) (fun H locs X => ?_)
  refine lv_aload_n C.1 C.2.1 dX12_here_4 rfl (lv_at hl 0 rfl) ?_
  refine gfX12 C G X (k := 399) kd_399 11 (v := .int (σ1 399 11)) rfl rfl (by decide) k_1662 rfl dX12_here_5 ?_
  rw [← Option.some.inj h]
  exact rtI C X dX12_here_8

theorem c_X12_here (l : Launch) (E : GE) {σ : Mem} {r : (Int32 × Mem)} (h : X12_here σ = some r) : CtI l E yX12_here cX12_here 1 .int 3 [.ref (gB E + 399)] σ r.1 r.2 := by
  refine Met.ofW (cc := cX12_here) (maxL := 1) (ret := (some .int)) (by decide) rfl ?_
  intro p e s m args below meth c s₁ B hml hv
  obtain ⟨rfl, G, X⟩ := start hv
  have C := cxof B hml
  have hl := lv_entry [.ref (gB E + 399)] (n := 1) (Nat.le_of_ble_eq_true rfl)
  rw [lg_entry_eq]
  generalize (lg_sl [.ref (gB E + 399)] ++ List.replicate (1 - (lg_sl [.ref (gB E + 399)]).length) Slot.unset).toArray = ls at hl ⊢
  exact w_X12_here C G X hl h

set_option maxRecDepth 20000 in
theorem w_X12_figures_119 {r : (Int32 × Mem)} {σ : Mem} {x3 : Int32} {x4 : Int32} {ls : Array Slot} {H : Heap} {locs : List Loc} (C : Cx p s m args meth c cX12_figures (some .int) 5 RX12) (G : Gf E s) (X : Hx E σ s H locs) (hl : lv_has ls 5 [(0, .ref (gB E + 399)), (3, .int x3), (4, .int x4)]) (h : X12_figures_119 x3 x4 σ = some r) : W p l e (RM 4) s m args below meth c H locs 0 0 (QI E below args s r.1 r.2) (F0 m 119 ls []) := by
  rw [X12_figures_119] at h
  refine lv_aload_n C.1 C.2.1 dX12_figures_119 rfl (lv_at hl 0 rfl) ?_
  refine lv_iload_n C.1 C.2.1 dX12_figures_120 rfl (lv_at hl 1 rfl) ?_
  obtain ⟨σ121, e121, h⟩ := bnd h
  refine afV X (runV C G X q_X12_wrong k_1762 kp_31 k_1760 (rcX12 G X kd_399) (c_X12_wrong l E e121) rfl hl.1 rfl (Nat.le_of_ble_eq_true rfl) ⟨Nat.le_of_ble_eq_true rfl, Nat.le_of_ble_eq_true rfl⟩ ⟨Nat.le_of_ble_eq_true rfl, Nat.le_of_ble_eq_true rfl⟩ dX12_figures_121) (fun H locs X => ?_)
  refine lv_iload C.1 C.2.1 dX12_figures_124 (lv_at hl 2 rfl) ?_
  rw [← Option.some.inj h]
  exact rtI C X dX12_figures_126

set_option maxRecDepth 20000 in
theorem w_X12_figures_89 {r : (Int32 × Mem)} {σ : Mem} {x1 : Int32} {x2 : Int32} {x3 : Int32} {x4 : Int32} {ls : Array Slot} {H : Heap} {locs : List Loc} (C : Cx p s m args meth c cX12_figures (some .int) 5 RX12) (G : Gf E s) (X : Hx E σ s H locs) (hl : lv_has ls 5 [(0, .ref (gB E + 399)), (1, .int x1), (2, .int x2), (3, .int x3), (4, .int x4)]) (h : X12_figures_89 x1 x2 x3 x4 σ = some r) : W p l e (RM 4) s m args below meth c H locs 0 0 (QI E below args s r.1 r.2) (F0 m 89 ls []) := by
  rw [X12_figures_89] at h
  refine lv_aload_n C.1 C.2.1 dX12_figures_89 rfl (lv_at hl 0 rfl) ?_
  refine gfX12 C G X (k := 399) kd_399 11 (v := .int (σ 399 11)) rfl rfl (by decide) k_1662 rfl dX12_figures_90 ?_
  refine lv_iload_n C.1 C.2.1 dX12_figures_93 rfl (lv_at hl 3 rfl) ?_
  refine lv_icmp_eq (tgt := 119) C.1 C.2.1 dX12_figures_94 (by decide) (fun c94 => ?_) (fun c94 => ?_)
  · replace h := ipos c94 h
    exact w_X12_figures_119 C G X (lv_sub hl [0, 3, 4] rfl) h
  · replace h := ineg c94 h
    refine lv_aload_n C.1 C.2.1 dX12_figures_97 rfl (lv_at hl 0 rfl) ?_
    refine gfX12 C G X (k := 399) kd_399 11 (v := .int (σ 399 11)) rfl rfl (by decide) k_1662 rfl dX12_figures_98 ?_
    refine lv_iload_n C.1 C.2.1 dX12_figures_101 rfl (lv_at hl 3 rfl) ?_
    refine lv_isub C.1 C.2.1 dX12_figures_102 ?_
    refine lv_iconst (v := 3) C.1 C.2.1 dX12_figures_103 (by decide) ?_
    refine lv_icmp_gt (tgt := 119) C.1 C.2.1 dX12_figures_104 (by decide) (fun c104 => ?_) (fun c104 => ?_)
    · replace h := ipos c104 h
      exact w_X12_figures_119 C G X (lv_sub hl [0, 3, 4] rfl) h
    · replace h := ineg c104 h
      refine lv_iload C.1 C.2.1 dX12_figures_107 (lv_at hl 4 rfl) ?_
      refine lv_iload_n C.1 C.2.1 dX12_figures_109 rfl (lv_at hl 1 rfl) ?_
      refine lv_icmp_lt (tgt := 119) C.1 C.2.1 dX12_figures_110 (by decide) (fun c110 => ?_) (fun c110 => ?_)
      · replace h := ipos c110 h
        exact w_X12_figures_119 C G X (lv_sub hl [0, 3, 4] rfl) h
      · replace h := ineg c110 h
        refine lv_iload C.1 C.2.1 dX12_figures_113 (lv_at hl 4 rfl) ?_
        refine lv_iload_n C.1 C.2.1 dX12_figures_115 rfl (lv_at hl 2 rfl) ?_
        refine lv_icmp_le (tgt := 124) C.1 C.2.1 dX12_figures_116 (by decide) (fun c116 => ?_) (fun c116 => ?_)
        · replace h := ipos c116 h
          refine lv_iload C.1 C.2.1 dX12_figures_124 (lv_at hl 4 rfl) ?_
          rw [← Option.some.inj h]
          exact rtI C X dX12_figures_126
        · replace h := ineg c116 h
          exact w_X12_figures_119 C G X (lv_sub hl [0, 3, 4] rfl) h

set_option maxRecDepth 20000 in
theorem w_X12_figures_18 {r : (Int32 × Mem)} (C : Cx p s m args meth c cX12_figures (some .int) 5 RX12) (G : Gf E s) : ∀ (f : Nat) {x1 : Int32} {x2 : Int32} {x3 : Int32} {x4 : Int32} {σ : Mem} {ls : Array Slot} {H : Heap} {locs : List Loc}, Hx E σ s H locs → lv_has ls 5 [(0, .ref (gB E + 399)), (1, .int x1), (2, .int x2), (3, .int x3), (4, .int x4)] → X12_figures_18 f x1 x2 x3 x4 σ = some r → W p l e (RM 4) s m args below meth c H locs 0 0 (QI E below args s r.1 r.2) (F0 m 18 ls []) := by
  intro f
  induction f with
  | zero =>
    intro x1 x2 x3 x4 σ ls H locs X hl h
    rw [X12_figures_18] at h
    cases h
  | succ f ih =>
    intro x1 x2 x3 x4 σ ls H locs X hl h
    rw [X12_figures_18] at h
    refine lv_aload_n C.1 C.2.1 dX12_figures_18 rfl (lv_at hl 0 rfl) ?_
    refine gfX12 C G X (k := 399) kd_399 11 (v := .int (σ 399 11)) rfl rfl (by decide) k_1662 rfl dX12_figures_19 ?_
    refine lv_aload_n C.1 C.2.1 dX12_figures_22 rfl (lv_at hl 0 rfl) ?_
    refine gfX12 C G X (k := 399) kd_399 10 (v := .int (σ 399 10)) rfl rfl (by decide) k_1661 rfl dX12_figures_23 ?_
    refine lv_icmp_ge (tgt := 89) C.1 C.2.1 dX12_figures_26 (by decide) (fun c26 => ?_) (fun c26 => ?_)
    · replace h := ipos c26 h
      exact w_X12_figures_89 C G X (lv_sub hl [0, 1, 2, 3, 4] rfl) h
    · replace h := ineg c26 h
      refine lv_aload_n C.1 C.2.1 dX12_figures_29 rfl (lv_at hl 0 rfl) ?_
      refine lv_aload_n C.1 C.2.1 dX12_figures_30 rfl (lv_at hl 0 rfl) ?_
      refine gfX12 C G X (k := 399) kd_399 11 (v := .int (σ 399 11)) rfl rfl (by decide) k_1662 rfl dX12_figures_31 ?_
      obtain ⟨r34, e34, h⟩ := bnd h
      refine afI X (runV C G X q_X12_letter k_1758 kp_30 k_1756 (rcX12 G X kd_399) (c_X12_letter l E e34) rfl hl.1 rfl (Nat.le_of_ble_eq_true rfl) ⟨Nat.le_of_ble_eq_true rfl, Nat.le_of_ble_eq_true rfl⟩ ⟨Nat.le_of_ble_eq_true rfl, Nat.le_of_ble_eq_true rfl⟩ dX12_figures_34) (fun H locs X => ?_)
      refine lv_bipush (v := 48) C.1 C.2.1 dX12_figures_37 (by decide) ?_
      refine lv_bipush (v := 57) C.1 C.2.1 dX12_figures_39 (by decide) ?_
      obtain ⟨r41, e41, h⟩ := bnd h
      refine afI X (runS C G X q_X12_isIn k_1734 k_1733 (c_X12_isIn l E e41) rfl hl.1 rfl (Nat.le_of_ble_eq_true rfl) ⟨Nat.le_of_ble_eq_true rfl, Nat.le_of_ble_eq_true rfl⟩ ⟨Nat.le_of_ble_eq_true rfl, Nat.le_of_ble_eq_true rfl⟩ dX12_figures_41) (fun H locs X => ?_)
      refine lv_if_eq (tgt := 89) C.1 C.2.1 dX12_figures_44 (by decide) (fun c44 => ?_) (fun c44 => ?_)
      · replace h := ipos c44 h
        exact w_X12_figures_89 C G X (lv_sub hl [0, 1, 2, 3, 4] rfl) h
      · replace h := ineg c44 h
        refine lv_aload_n C.1 C.2.1 dX12_figures_47 rfl (lv_at hl 0 rfl) ?_
        refine gfX12 C G X (k := 399) kd_399 11 (v := .int (σ 399 11)) rfl rfl (by decide) k_1662 rfl dX12_figures_48 ?_
        refine lv_iload_n C.1 C.2.1 dX12_figures_51 rfl (lv_at hl 3 rfl) ?_
        refine lv_isub C.1 C.2.1 dX12_figures_52 ?_
        refine lv_iconst (v := 3) C.1 C.2.1 dX12_figures_53 (by decide) ?_
        refine lv_icmp_gt (tgt := 89) C.1 C.2.1 dX12_figures_54 (by decide) (fun c54 => ?_) (fun c54 => ?_)
        · replace h := ipos c54 h
          exact w_X12_figures_89 C G X (lv_sub hl [0, 1, 2, 3, 4] rfl) h
        · replace h := ineg c54 h
          refine lv_bipush (v := 10) C.1 C.2.1 dX12_figures_57 (by decide) ?_
          refine lv_iload C.1 C.2.1 dX12_figures_59 (lv_at hl 4 rfl) ?_
          refine lv_imul C.1 C.2.1 dX12_figures_61 ?_
          refine lv_aload_n C.1 C.2.1 dX12_figures_62 rfl (lv_at hl 0 rfl) ?_
          refine lv_aload_n C.1 C.2.1 dX12_figures_63 rfl (lv_at hl 0 rfl) ?_
          refine gfX12 C G X (k := 399) kd_399 11 (v := .int (σ 399 11)) rfl rfl (by decide) k_1662 rfl dX12_figures_64 ?_
          obtain ⟨r67, e67, h⟩ := bnd h
          refine afI X (runV C G X q_X12_letter k_1758 kp_30 k_1756 (rcX12 G X kd_399) (c_X12_letter l E e67) rfl hl.1 rfl (Nat.le_of_ble_eq_true rfl) ⟨Nat.le_of_ble_eq_true rfl, Nat.le_of_ble_eq_true rfl⟩ ⟨Nat.le_of_ble_eq_true rfl, Nat.le_of_ble_eq_true rfl⟩ dX12_figures_67) (fun H locs X => ?_)
          refine lv_iadd C.1 C.2.1 dX12_figures_70 ?_
          refine lv_bipush (v := 48) C.1 C.2.1 dX12_figures_71 (by decide) ?_
          refine lv_isub C.1 C.2.1 dX12_figures_73 ?_
          refine lv_istore (lv' := [(4, .int ((((10 : Int32) * x4) + r67) - (48 : Int32))), (0, .ref (gB E + 399)), (1, .int x1), (2, .int x2), (3, .int x3)]) C.1 C.2.1 dX12_figures_74 hl (by decide) rfl (fun ls hl => ?_)
          refine lv_aload_n C.1 C.2.1 dX12_figures_76 rfl (lv_at hl 1 rfl) ?_
          refine lv_dup C.1 C.2.1 dX12_figures_77 rfl ?_
          refine gfX12 C G X (k := 399) kd_399 11 (v := .int (σ 399 11)) rfl rfl (by decide) k_1662 rfl dX12_figures_78 ?_
          refine lv_iconst (v := 1) C.1 C.2.1 dX12_figures_81 (by decide) ?_
          refine lv_iadd C.1 C.2.1 dX12_figures_82 ?_
          obtain ⟨σ83, e83, h⟩ := bnd h
          refine pfX12 C G X (k := 399) kd_399 11 (x := ((σ 399 11) + (1 : Int32))) (ty := .int) rfl rfl (Nat.le_of_ble_eq_true rfl) (by decide) k_1662 rfl rfl (by decide +kernel) rfl rfl dX12_figures_83 (fun H locs X => ?_)
          replace X := pu_x e83 X
          refine lv_goto (tgt := 18) C.1 C.2.1 dX12_figures_86 (by decide) ?_
          exact ih X (lv_sub hl [1, 2, 3, 4, 0] rfl) h

set_option maxRecDepth 20000 in
theorem w_X12_figures {r : (Int32 × Mem)} {σ : Mem} {x1 : Int32} {x2 : Int32} {ls : Array Slot} {H : Heap} {locs : List Loc} (C : Cx p s m args meth c cX12_figures (some .int) 5 RX12) (G : Gf E s) (X : Hx E σ s H locs) (hl : lv_has ls 5 [(0, .ref (gB E + 399)), (1, .int x1), (2, .int x2)]) (h : X12_figures x1 x2 σ = some r) : W p l e (RM 4) s m args below meth c H locs 0 0 (QI E below args s r.1 r.2) (F0 m 0 ls []) := by
  rw [X12_figures] at h
  refine lv_aload_n C.1 C.2.1 dX12_figures_0 rfl (lv_at hl 0 rfl) ?_
  refine gfX12 C G X (k := 399) kd_399 12 (v := .int (σ 399 12)) rfl rfl (by decide) k_1663 rfl dX12_figures_1 ?_
  refine lv_iconst (v := -1) C.1 C.2.1 dX12_figures_4 (by decide) ?_
  refine lv_icmp_eq (tgt := 10) C.1 C.2.1 dX12_figures_5 (by decide) (fun c5 => ?_) (fun c5 => ?_)
  · replace h := ipos c5 h
    refine lv_aload_n C.1 C.2.1 dX12_figures_10 rfl (lv_at hl 0 rfl) ?_
    obtain ⟨r11, σ11, e11, h⟩ := bnd2 h
    refine afI (r0 := r11) (σ' := σ11) X (runV C G X q_X12_here k_1783 kp_35 k_1781 (rcX12 G X kd_399) (c_X12_here l E e11) rfl hl.1 rfl (Nat.le_of_ble_eq_true rfl) ⟨Nat.le_of_ble_eq_true rfl, Nat.le_of_ble_eq_true rfl⟩ ⟨Nat.le_of_ble_eq_true rfl, Nat.le_of_ble_eq_true rfl⟩ dX12_figures_11) (fun H locs X => ?_)
    refine lv_istore_n (lv' := [(3, .int r11), (0, .ref (gB E + 399)), (1, .int x1), (2, .int x2)]) C.1 C.2.1 dX12_figures_14 rfl hl (by decide) rfl (fun ls hl => ?_)
    refine lv_iconst (v := 0) C.1 C.2.1 dX12_figures_15 (by decide) ?_
    refine lv_istore (lv' := [(4, .int (0 : Int32)), (3, .int r11), (0, .ref (gB E + 399)), (1, .int x1), (2, .int x2)]) C.1 C.2.1 dX12_figures_16 hl (by decide) rfl (fun ls hl => ?_)
    exact w_X12_figures_18 C G FU X (lv_sub hl [2, 3, 4, 1, 0] rfl) h
  · replace h := ineg c5 h
    refine lv_iconst (v := 0) C.1 C.2.1 dX12_figures_8 (by decide) ?_
    rw [← Option.some.inj h]
    exact rtI C X dX12_figures_9

theorem c_X12_figures (l : Launch) (E : GE) {σ : Mem} {x1 : Int32} {x2 : Int32} {r : (Int32 × Mem)} (h : X12_figures x1 x2 σ = some r) : CtI l E yX12_figures cX12_figures 5 .int 4 [.ref (gB E + 399), .int x1, .int x2] σ r.1 r.2 := by
  refine Met.ofW (cc := cX12_figures) (maxL := 5) (ret := (some .int)) (by decide) rfl ?_
  intro p e s m args below meth c s₁ B hml hv
  obtain ⟨rfl, G, X⟩ := start hv
  have C := cxof B hml
  have hl := lv_entry [.ref (gB E + 399), .int x1, .int x2] (n := 5) (Nat.le_of_ble_eq_true rfl)
  rw [lg_entry_eq]
  generalize (lg_sl [.ref (gB E + 399), .int x1, .int x2] ++ List.replicate (5 - (lg_sl [.ref (gB E + 399), .int x1, .int x2]).length) Slot.unset).toArray = ls at hl ⊢
  exact w_X12_figures C G X hl h

set_option maxRecDepth 20000 in
theorem w_X12_after_24 {r : (Int32 × Mem)} {σ : Mem} {x2 : Int32} {x3 : Int32} {ls : Array Slot} {H : Heap} {locs : List Loc} (C : Cx p s m args meth c cX12_after (some .int) 4 RX12) (G : Gf E s) (X : Hx E σ s H locs) (hl : lv_has ls 4 [(0, .ref (gB E + 399)), (2, .int x2), (3, .int x3)]) (h : X12_after_24 x2 x3 σ = some r) : W p l e (RM 10) s m args below meth c H locs 0 0 (QI E below args s r.1 r.2) (F0 m 24 ls []) := by
  rw [X12_after_24] at h
  refine lv_aload_n C.1 C.2.1 dX12_after_24 rfl (lv_at hl 0 rfl) ?_
  refine lv_iload_n C.1 C.2.1 dX12_after_25 rfl (lv_at hl 1 rfl) ?_
  refine lv_iload_n C.1 C.2.1 dX12_after_26 rfl (lv_at hl 2 rfl) ?_
  obtain ⟨r27, σ27, e27, h⟩ := bnd2 h
  refine afI (r0 := r27) (σ' := σ27) X (runV C G X q_X12_figures k_1779 kp_34 k_1777 (rcX12 G X kd_399) (c_X12_figures l E e27) rfl hl.1 rfl (Nat.le_of_ble_eq_true rfl) ⟨Nat.le_of_ble_eq_true rfl, Nat.le_of_ble_eq_true rfl⟩ ⟨Nat.le_of_ble_eq_true rfl, Nat.le_of_ble_eq_true rfl⟩ dX12_after_27) (fun H locs X => ?_)
  rw [← Option.some.inj h]
  exact rtI C X dX12_after_30

set_option maxRecDepth 20000 in
theorem w_X12_after {r : (Int32 × Mem)} {σ : Mem} {s1 : Nat} {x2 : Int32} {x3 : Int32} {ls : Array Slot} {H : Heap} {locs : List Loc} (C : Cx p s m args meth c cX12_after (some .int) 4 RX12) (G : Gf E s) (X : Hx E σ s H locs) (hl : lv_has ls 4 [(0, .ref (gB E + 399)), (1, .ref (gK E s1)), (2, .int x2), (3, .int x3)]) (h : X12_after s1 x2 x3 σ = some r) : W p l e (RM 10) s m args below meth c H locs 0 0 (QI E below args s r.1 r.2) (F0 m 0 ls []) := by
  rw [X12_after] at h
  refine lv_aload_n C.1 C.2.1 dX12_after_0 rfl (lv_at hl 0 rfl) ?_
  refine gfX12 C G X (k := 399) kd_399 12 (v := .int (σ 399 12)) rfl rfl (by decide) k_1663 rfl dX12_after_1 ?_
  refine lv_iconst (v := -1) C.1 C.2.1 dX12_after_4 (by decide) ?_
  refine lv_icmp_ne (tgt := 24) C.1 C.2.1 dX12_after_5 (by decide) (fun c5 => ?_) (fun c5 => ?_)
  · replace h := ineg c5 h
    exact w_X12_after_24 C G X (lv_sub hl [0, 2, 3] rfl) h
  · replace h := ipos c5 h
    refine lv_aload_n C.1 C.2.1 dX12_after_8 rfl (lv_at hl 0 rfl) ?_
    refine lv_aload_n C.1 C.2.1 dX12_after_9 rfl (lv_at hl 1 rfl) ?_
    obtain ⟨r10, σ10, e10, h⟩ := bnd2 h
    refine afI (r0 := r10) (σ' := σ10) X (runV C G X q_X12_has k_1771 kp_33 k_1769 (rcX12 G X kd_399) (c_X12_has l E e10) rfl hl.1 rfl (Nat.le_of_ble_eq_true rfl) ⟨Nat.le_of_ble_eq_true rfl, Nat.le_of_ble_eq_true rfl⟩ ⟨Nat.le_of_ble_eq_true rfl, Nat.le_of_ble_eq_true rfl⟩ dX12_after_10) (fun H locs X => ?_)
    refine lv_if_ne (tgt := 24) C.1 C.2.1 dX12_after_13 (by decide) (fun c13 => ?_) (fun c13 => ?_)
    · replace h := ineg c13 h
      exact w_X12_after_24 C G X (lv_sub hl [0, 2, 3] rfl) h
    · replace h := ipos c13 h
      refine lv_aload_n C.1 C.2.1 dX12_after_16 rfl (lv_at hl 0 rfl) ?_
      refine lv_aload_n C.1 C.2.1 dX12_after_17 rfl (lv_at hl 0 rfl) ?_
      refine gfX12 C G X (k := 399) kd_399 11 (v := .int (σ10 399 11)) rfl rfl (by decide) k_1662 rfl dX12_after_18 ?_
      obtain ⟨σ21, e21, h⟩ := bnd h
      refine afV X (runV C G X q_X12_wrong k_1762 kp_31 k_1760 (rcX12 G X kd_399) (c_X12_wrong l E e21) rfl hl.1 rfl (Nat.le_of_ble_eq_true rfl) ⟨Nat.le_of_ble_eq_true rfl, Nat.le_of_ble_eq_true rfl⟩ ⟨Nat.le_of_ble_eq_true rfl, Nat.le_of_ble_eq_true rfl⟩ dX12_after_21) (fun H locs X => ?_)
      exact w_X12_after_24 C G X (lv_sub hl [0, 2, 3] rfl) h

theorem c_X12_after (l : Launch) (E : GE) {σ : Mem} {s1 : Nat} {x2 : Int32} {x3 : Int32} {r : (Int32 × Mem)} (h : X12_after s1 x2 x3 σ = some r) : CtI l E yX12_after cX12_after 4 .int 10 [.ref (gB E + 399), .ref (gK E s1), .int x2, .int x3] σ r.1 r.2 := by
  refine Met.ofW (cc := cX12_after) (maxL := 4) (ret := (some .int)) (by decide) rfl ?_
  intro p e s m args below meth c s₁ B hml hv
  obtain ⟨rfl, G, X⟩ := start hv
  have C := cxof B hml
  have hl := lv_entry [.ref (gB E + 399), .ref (gK E s1), .int x2, .int x3] (n := 4) (Nat.le_of_ble_eq_true rfl)
  rw [lg_entry_eq]
  generalize (lg_sl [.ref (gB E + 399), .ref (gK E s1), .int x2, .int x3] ++ List.replicate (4 - (lg_sl [.ref (gB E + 399), .ref (gK E s1), .int x2, .int x3]).length) Slot.unset).toArray = ls at hl ⊢
  exact w_X12_after C G X hl h

set_option maxRecDepth 20000 in
theorem w_X12_paneLine_158 {r : Mem} (C : Cx p s m args meth c cX12_paneLine none 7 RX12) (G : Gf E s) : ∀ (f : Nat) {x5 : Int32} {x6 : Int32} {σ : Mem} {ls : Array Slot} {H : Heap} {locs : List Loc}, Hx E σ s H locs → lv_has ls 7 [(0, .ref (gB E + 399)), (5, .int x5), (6, .int x6)] → X12_paneLine_158 f x5 x6 σ = some r → W p l e (RM 10) s m args below meth c H locs 0 0 (QV E below args s r) (F0 m 158 ls []) := by
  intro f
  induction f with
  | zero =>
    intro x5 x6 σ ls H locs X hl h
    rw [X12_paneLine_158] at h
    cases h
  | succ f ih =>
    intro x5 x6 σ ls H locs X hl h
    rw [X12_paneLine_158] at h
    refine lv_iload C.1 C.2.1 dX12_paneLine_158 (lv_at hl 2 rfl) ?_
    refine lv_bipush (v := 9) C.1 C.2.1 dX12_paneLine_160 (by decide) ?_
    refine lv_icmp_ge (tgt := 180) C.1 C.2.1 dX12_paneLine_162 (by decide) (fun c162 => ?_) (fun c162 => ?_)
    · replace h := ipos c162 h
      refine lv_aload_n C.1 C.2.1 dX12_paneLine_180 rfl (lv_at hl 0 rfl) ?_
      refine gfX12 C G X (k := 399) kd_399 1 (v := .ref (gB E + 400)) rfl rfl (by decide) k_1652 rfl dX12_paneLine_181 ?_
      refine lv_iconst (v := 3) C.1 C.2.1 dX12_paneLine_184 (by decide) ?_
      refine lv_dup2_11 C.1 C.2.1 dX12_paneLine_185 rfl rfl ?_
      obtain ⟨r186, e186, h⟩ := bnd h
      refine ald C G X (k := 400) kd_400 (ag_s e186).1 dX12_paneLine_186 ?_
      rw [(ag_s e186).2]
      refine lv_iconst (v := 1) C.1 C.2.1 dX12_paneLine_187 (by decide) ?_
      refine lv_iadd C.1 C.2.1 dX12_paneLine_188 ?_
      obtain ⟨σ189, e189, h⟩ := bnd h
      refine ast C G X (k := 400) kd_400 (au_s e189).1 dX12_paneLine_189 (fun H locs X => ?_)
      rw [(au_s e189).2] at X
      rw [← Option.some.inj h]
      exact rtV C X dX12_paneLine_190
    · replace h := ineg c162 h
      refine lv_aload_n C.1 C.2.1 dX12_paneLine_165 rfl (lv_at hl 0 rfl) ?_
      refine lv_iload C.1 C.2.1 dX12_paneLine_166 (lv_at hl 1 rfl) ?_
      refine lv_iload C.1 C.2.1 dX12_paneLine_168 (lv_at hl 2 rfl) ?_
      refine lv_iconst (v := 0) C.1 C.2.1 dX12_paneLine_170 (by decide) ?_
      obtain ⟨σ171, e171, h⟩ := bnd h
      refine afV X (runV C G X q_X12_ways k_1841 kp_46 k_1839 (rcX12 G X kd_399) (c_X12_ways l E e171) rfl hl.1 rfl (Nat.le_of_ble_eq_true rfl) ⟨Nat.le_of_ble_eq_true rfl, Nat.le_of_ble_eq_true rfl⟩ ⟨Nat.le_of_ble_eq_true rfl, Nat.le_of_ble_eq_true rfl⟩ dX12_paneLine_171) (fun H locs X => ?_)
      refine lv_iinc (v := (x6 + 1)) (lv' := [(6, .int (x6 + 1)), (0, .ref (gB E + 399)), (5, .int x5)]) C.1 C.2.1 dX12_paneLine_174 hl (k := 2) rfl rfl (by decide) rfl (fun ls hl => ?_)
      refine lv_goto (tgt := 158) C.1 C.2.1 dX12_paneLine_177 (by decide) ?_
      exact ih X (lv_sub hl [1, 2, 0] rfl) h

set_option maxRecDepth 20000 in
theorem w_X12_paneLine_136 {r : Mem} {σ : Mem} {x5 : Int32} {y1 : Int32} {y2 : Int32} {y3 : Int32} {ls : Array Slot} {H : Heap} {locs : List Loc} (C : Cx p s m args meth c cX12_paneLine none 7 RX12) (G : Gf E s) (X : Hx E σ s H locs) (hl : lv_has ls 7 [(0, .ref (gB E + 399)), (5, .int x5)]) (h : X12_paneLine_136 x5 y1 y2 y3 σ = some r) : W p l e (RM 10) s m args below meth c H locs 0 0 (QV E below args s r) (F0 m 136 ls [.int y3, .int y2, .int y1, .ref (gB E + 399)]) := by
  rw [X12_paneLine_136] at h
  obtain ⟨σ136, e136, h⟩ := bnd h
  refine afV X (runV C G X q_X12_lays k_1837 kp_45 k_1835 (rcX12 G X kd_399) (c_X12_lays l E e136) rfl hl.1 rfl (Nat.le_of_ble_eq_true rfl) ⟨Nat.le_of_ble_eq_true rfl, Nat.le_of_ble_eq_true rfl⟩ ⟨Nat.le_of_ble_eq_true rfl, Nat.le_of_ble_eq_true rfl⟩ dX12_paneLine_136) (fun H locs X => ?_)
  refine lv_aload_n C.1 C.2.1 dX12_paneLine_139 rfl (lv_at hl 0 rfl) ?_
  refine lv_iload C.1 C.2.1 dX12_paneLine_140 (lv_at hl 1 rfl) ?_
  refine lv_iconst (v := 2) C.1 C.2.1 dX12_paneLine_142 (by decide) ?_
  refine lv_iconst (v := -1) C.1 C.2.1 dX12_paneLine_143 (by decide) ?_
  obtain ⟨σ144, e144, h⟩ := bnd h
  refine afV X (runV C G X q_X12_lays k_1837 kp_45 k_1835 (rcX12 G X kd_399) (c_X12_lays l E e144) rfl hl.1 rfl (Nat.le_of_ble_eq_true rfl) ⟨Nat.le_of_ble_eq_true rfl, Nat.le_of_ble_eq_true rfl⟩ ⟨Nat.le_of_ble_eq_true rfl, Nat.le_of_ble_eq_true rfl⟩ dX12_paneLine_144) (fun H locs X => ?_)
  refine lv_aload_n C.1 C.2.1 dX12_paneLine_147 rfl (lv_at hl 0 rfl) ?_
  refine lv_iload C.1 C.2.1 dX12_paneLine_148 (lv_at hl 1 rfl) ?_
  refine lv_iconst (v := 3) C.1 C.2.1 dX12_paneLine_150 (by decide) ?_
  refine lv_iconst (v := 0) C.1 C.2.1 dX12_paneLine_151 (by decide) ?_
  obtain ⟨σ152, e152, h⟩ := bnd h
  refine afV X (runV C G X q_X12_lays k_1837 kp_45 k_1835 (rcX12 G X kd_399) (c_X12_lays l E e152) rfl hl.1 rfl (Nat.le_of_ble_eq_true rfl) ⟨Nat.le_of_ble_eq_true rfl, Nat.le_of_ble_eq_true rfl⟩ ⟨Nat.le_of_ble_eq_true rfl, Nat.le_of_ble_eq_true rfl⟩ dX12_paneLine_152) (fun H locs X => ?_)
  refine lv_iconst (v := 0) C.1 C.2.1 dX12_paneLine_155 (by decide) ?_
  refine lv_istore (lv' := [(6, .int (0 : Int32)), (0, .ref (gB E + 399)), (5, .int x5)]) C.1 C.2.1 dX12_paneLine_156 hl (by decide) rfl (fun ls hl => ?_)
  exact w_X12_paneLine_158 C G FU X (lv_sub hl [1, 2, 0] rfl) h

set_option maxRecDepth 20000 in
theorem w_X12_paneLine_97 {r : Mem} {σ : Mem} {x2 : Int32} {x4 : Int32} {ls : Array Slot} {H : Heap} {locs : List Loc} (C : Cx p s m args meth c cX12_paneLine none 7 RX12) (G : Gf E s) (X : Hx E σ s H locs) (hl : lv_has ls 7 [(0, .ref (gB E + 399)), (2, .int x2), (4, .int x4)]) (h : X12_paneLine_97 x2 x4 σ = some r) : W p l e (RM 10) s m args below meth c H locs 0 0 (QV E below args s r) (F0 m 97 ls []) := by
  rw [X12_paneLine_97] at h
  refine lv_aload_n C.1 C.2.1 dX12_paneLine_97 rfl (lv_at hl 0 rfl) ?_
  refine gfX12 C G X (k := 399) kd_399 12 (v := .int (σ 399 12)) rfl rfl (by decide) k_1663 rfl dX12_paneLine_98 ?_
  refine lv_iconst (v := -1) C.1 C.2.1 dX12_paneLine_101 (by decide) ?_
  refine lv_icmp_eq (tgt := 106) C.1 C.2.1 dX12_paneLine_102 (by decide) (fun c102 => ?_) (fun c102 => ?_)
  · replace h := ipos c102 h
    refine lv_aload_n C.1 C.2.1 dX12_paneLine_106 rfl (lv_at hl 0 rfl) ?_
    refine gfX12 C G X (k := 399) kd_399 1 (v := .ref (gB E + 400)) rfl rfl (by decide) k_1652 rfl dX12_paneLine_107 ?_
    refine lv_iconst (v := 3) C.1 C.2.1 dX12_paneLine_110 (by decide) ?_
    obtain ⟨r111, e111, h⟩ := bnd h
    refine ald C G X (k := 400) kd_400 (ag_s e111).1 dX12_paneLine_111 ?_
    rw [(ag_s e111).2]
    refine lv_istore (lv' := [(5, .int r111), (0, .ref (gB E + 399)), (2, .int x2), (4, .int x4)]) C.1 C.2.1 dX12_paneLine_112 hl (by decide) rfl (fun ls hl => ?_)
    refine lv_aload_n C.1 C.2.1 dX12_paneLine_114 rfl (lv_at hl 1 rfl) ?_
    refine lv_iload C.1 C.2.1 dX12_paneLine_115 (lv_at hl 0 rfl) ?_
    refine lv_iconst (v := 0) C.1 C.2.1 dX12_paneLine_117 (by decide) ?_
    refine lv_iload_n C.1 C.2.1 dX12_paneLine_118 rfl (lv_at hl 2 rfl) ?_
    obtain ⟨σ119, e119, h⟩ := bnd h
    refine afV X (runV C G X q_X12_lays k_1837 kp_45 k_1835 (rcX12 G X kd_399) (c_X12_lays l E e119) rfl hl.1 rfl (Nat.le_of_ble_eq_true rfl) ⟨Nat.le_of_ble_eq_true rfl, Nat.le_of_ble_eq_true rfl⟩ ⟨Nat.le_of_ble_eq_true rfl, Nat.le_of_ble_eq_true rfl⟩ dX12_paneLine_119) (fun H locs X => ?_)
    refine lv_aload_n C.1 C.2.1 dX12_paneLine_122 rfl (lv_at hl 1 rfl) ?_
    refine lv_iload C.1 C.2.1 dX12_paneLine_123 (lv_at hl 0 rfl) ?_
    refine lv_iconst (v := 1) C.1 C.2.1 dX12_paneLine_125 (by decide) ?_
    refine lv_iload C.1 C.2.1 dX12_paneLine_126 (lv_at hl 3 rfl) ?_
    refine lv_if_eq (tgt := 135) C.1 C.2.1 dX12_paneLine_128 (by decide) (fun c128 => ?_) (fun c128 => ?_)
    · replace h := ipos c128 h
      refine lv_iconst (v := 0) C.1 C.2.1 dX12_paneLine_135 (by decide) ?_
      exact w_X12_paneLine_136 C G X (lv_sub hl [1, 0] rfl) h
    · replace h := ineg c128 h
      refine lv_iconst (v := 1) C.1 C.2.1 dX12_paneLine_131 (by decide) ?_
      refine lv_goto (tgt := 136) C.1 C.2.1 dX12_paneLine_132 (by decide) ?_
      exact w_X12_paneLine_136 C G X (lv_sub hl [1, 0] rfl) h
  · replace h := ineg c102 h
    rw [← Option.some.inj h]
    exact rtV C X dX12_paneLine_105

set_option maxRecDepth 20000 in
theorem w_X12_paneLine_73 {r : Mem} {σ : Mem} {x2 : Int32} {x3 : Int32} {y0 : Int32} {ls : Array Slot} {H : Heap} {locs : List Loc} (C : Cx p s m args meth c cX12_paneLine none 7 RX12) (G : Gf E s) (X : Hx E σ s H locs) (hl : lv_has ls 7 [(0, .ref (gB E + 399)), (2, .int x2), (3, .int x3)]) (h : X12_paneLine_73 x2 x3 y0 σ = some r) : W p l e (RM 10) s m args below meth c H locs 0 0 (QV E below args s r) (F0 m 73 ls [.int y0]) := by
  rw [X12_paneLine_73] at h
  refine lv_istore (lv' := [(4, .int y0), (0, .ref (gB E + 399)), (2, .int x2), (3, .int x3)]) C.1 C.2.1 dX12_paneLine_73 hl (by decide) rfl (fun ls hl => ?_)
  refine lv_aload_n C.1 C.2.1 dX12_paneLine_75 rfl (lv_at hl 1 rfl) ?_
  refine gfX12 C G X (k := 399) kd_399 12 (v := .int (σ 399 12)) rfl rfl (by decide) k_1663 rfl dX12_paneLine_76 ?_
  refine lv_iconst (v := -1) C.1 C.2.1 dX12_paneLine_79 (by decide) ?_
  refine lv_icmp_ne (tgt := 97) C.1 C.2.1 dX12_paneLine_80 (by decide) (fun c80 => ?_) (fun c80 => ?_)
  · replace h := ineg c80 h
    exact w_X12_paneLine_97 C G X (lv_sub hl [1, 2, 0] rfl) h
  · replace h := ipos c80 h
    refine lv_iload C.1 C.2.1 dX12_paneLine_83 (lv_at hl 0 rfl) ?_
    refine lv_if_eq (tgt := 97) C.1 C.2.1 dX12_paneLine_85 (by decide) (fun c85 => ?_) (fun c85 => ?_)
    · replace h := ipos c85 h
      exact w_X12_paneLine_97 C G X (lv_sub hl [1, 2, 0] rfl) h
    · replace h := ineg c85 h
      refine lv_iload_n C.1 C.2.1 dX12_paneLine_88 rfl (lv_at hl 2 rfl) ?_
      refine lv_if_ne (tgt := 97) C.1 C.2.1 dX12_paneLine_89 (by decide) (fun c89 => ?_) (fun c89 => ?_)
      · replace h := ineg c89 h
        exact w_X12_paneLine_97 C G X (lv_sub hl [1, 2, 0] rfl) h
      · replace h := ipos c89 h
        refine lv_aload_n C.1 C.2.1 dX12_paneLine_92 rfl (lv_at hl 1 rfl) ?_
        refine lv_iload_n C.1 C.2.1 dX12_paneLine_93 rfl (lv_at hl 3 rfl) ?_
        obtain ⟨σ94, e94, h⟩ := bnd h
        refine afV X (runV C G X q_X12_wrong k_1762 kp_31 k_1760 (rcX12 G X kd_399) (c_X12_wrong l E e94) rfl hl.1 rfl (Nat.le_of_ble_eq_true rfl) ⟨Nat.le_of_ble_eq_true rfl, Nat.le_of_ble_eq_true rfl⟩ ⟨Nat.le_of_ble_eq_true rfl, Nat.le_of_ble_eq_true rfl⟩ dX12_paneLine_94) (fun H locs X => ?_)
        exact w_X12_paneLine_97 C G X (lv_sub hl [1, 2, 0] rfl) h

set_option maxRecDepth 20000 in
theorem w_X12_paneLine_72 {r : Mem} {σ : Mem} {x2 : Int32} {x3 : Int32} {ls : Array Slot} {H : Heap} {locs : List Loc} (C : Cx p s m args meth c cX12_paneLine none 7 RX12) (G : Gf E s) (X : Hx E σ s H locs) (hl : lv_has ls 7 [(0, .ref (gB E + 399)), (2, .int x2), (3, .int x3)]) (h : X12_paneLine_72 x2 x3 σ = some r) : W p l e (RM 10) s m args below meth c H locs 0 0 (QV E below args s r) (F0 m 72 ls []) := by
  rw [X12_paneLine_72] at h
  refine lv_iconst (v := 0) C.1 C.2.1 dX12_paneLine_72 (by decide) ?_
  exact w_X12_paneLine_73 C G X (lv_sub hl [0, 1, 2] rfl) h

set_option maxRecDepth 20000 in
theorem w_X12_paneLine_45 {r : Mem} {σ : Mem} {y0 : Int32} {ls : Array Slot} {H : Heap} {locs : List Loc} (C : Cx p s m args meth c cX12_paneLine none 7 RX12) (G : Gf E s) (X : Hx E σ s H locs) (hl : lv_has ls 7 [(0, .ref (gB E + 399))]) (h : X12_paneLine_45 y0 σ = some r) : W p l e (RM 10) s m args below meth c H locs 0 0 (QV E below args s r) (F0 m 45 ls [.int y0]) := by
  rw [X12_paneLine_45] at h
  refine lv_istore_n (lv' := [(2, .int y0), (0, .ref (gB E + 399))]) C.1 C.2.1 dX12_paneLine_45 rfl hl (by decide) rfl (fun ls hl => ?_)
  refine lv_aload_n C.1 C.2.1 dX12_paneLine_46 rfl (lv_at hl 1 rfl) ?_
  obtain ⟨r47, σ47, e47, h⟩ := bnd2 h
  refine afI (r0 := r47) (σ' := σ47) X (runV C G X q_X12_here k_1783 kp_35 k_1781 (rcX12 G X kd_399) (c_X12_here l E e47) rfl hl.1 rfl (Nat.le_of_ble_eq_true rfl) ⟨Nat.le_of_ble_eq_true rfl, Nat.le_of_ble_eq_true rfl⟩ ⟨Nat.le_of_ble_eq_true rfl, Nat.le_of_ble_eq_true rfl⟩ dX12_paneLine_47) (fun H locs X => ?_)
  refine lv_istore_n (lv' := [(3, .int r47), (2, .int y0), (0, .ref (gB E + 399))]) C.1 C.2.1 dX12_paneLine_50 rfl hl (by decide) rfl (fun ls hl => ?_)
  refine lv_aload_n C.1 C.2.1 dX12_paneLine_51 rfl (lv_at hl 2 rfl) ?_
  refine gfX12 C G X (k := 399) kd_399 12 (v := .int (σ47 399 12)) rfl rfl (by decide) k_1663 rfl dX12_paneLine_52 ?_
  refine lv_iconst (v := -1) C.1 C.2.1 dX12_paneLine_55 (by decide) ?_
  refine lv_icmp_ne (tgt := 72) C.1 C.2.1 dX12_paneLine_56 (by decide) (fun c56 => ?_) (fun c56 => ?_)
  · replace h := ineg c56 h
    exact w_X12_paneLine_72 C G X (lv_sub hl [2, 1, 0] rfl) h
  · replace h := ipos c56 h
    refine lv_aload_n C.1 C.2.1 dX12_paneLine_59 rfl (lv_at hl 2 rfl) ?_
    refine ldS C G (i := 110) (tx := "lit") (ti := 16) (by decide +kernel) dX12_paneLine_60 ?_
    obtain ⟨r62, σ62, e62, h⟩ := bnd2 h
    refine afI (r0 := r62) (σ' := σ62) X (runV C G X q_X12_has k_1771 kp_33 k_1769 (rcX12 G X kd_399) (c_X12_has l E e62) rfl hl.1 rfl (Nat.le_of_ble_eq_true rfl) ⟨Nat.le_of_ble_eq_true rfl, Nat.le_of_ble_eq_true rfl⟩ ⟨Nat.le_of_ble_eq_true rfl, Nat.le_of_ble_eq_true rfl⟩ dX12_paneLine_62) (fun H locs X => ?_)
    refine lv_if_eq (tgt := 72) C.1 C.2.1 dX12_paneLine_65 (by decide) (fun c65 => ?_) (fun c65 => ?_)
    · replace h := ipos c65 h
      exact w_X12_paneLine_72 C G X (lv_sub hl [2, 1, 0] rfl) h
    · replace h := ineg c65 h
      refine lv_iconst (v := 1) C.1 C.2.1 dX12_paneLine_68 (by decide) ?_
      refine lv_goto (tgt := 73) C.1 C.2.1 dX12_paneLine_69 (by decide) ?_
      exact w_X12_paneLine_73 C G X (lv_sub hl [2, 1, 0] rfl) h

set_option maxRecDepth 20000 in
theorem w_X12_paneLine_43 {r : Mem} {σ : Mem} {ls : Array Slot} {H : Heap} {locs : List Loc} (C : Cx p s m args meth c cX12_paneLine none 7 RX12) (G : Gf E s) (X : Hx E σ s H locs) (hl : lv_has ls 7 [(0, .ref (gB E + 399))]) (h : X12_paneLine_43 σ = some r) : W p l e (RM 10) s m args below meth c H locs 0 0 (QV E below args s r) (F0 m 43 ls []) := by
  rw [X12_paneLine_43] at h
  refine lv_bipush (v := 20) C.1 C.2.1 dX12_paneLine_43 (by decide) ?_
  exact w_X12_paneLine_45 C G X (lv_sub hl [0] rfl) h

set_option maxRecDepth 20000 in
theorem w_X12_paneLine_16 {r : Mem} {σ : Mem} {ls : Array Slot} {H : Heap} {locs : List Loc} (C : Cx p s m args meth c cX12_paneLine none 7 RX12) (G : Gf E s) (X : Hx E σ s H locs) (hl : lv_has ls 7 [(0, .ref (gB E + 399))]) (h : X12_paneLine_16 σ = some r) : W p l e (RM 10) s m args below meth c H locs 0 0 (QV E below args s r) (F0 m 16 ls []) := by
  rw [X12_paneLine_16] at h
  refine lv_aload_n C.1 C.2.1 dX12_paneLine_16 rfl (lv_at hl 0 rfl) ?_
  refine gfX12 C G X (k := 399) kd_399 12 (v := .int (σ 399 12)) rfl rfl (by decide) k_1663 rfl dX12_paneLine_17 ?_
  refine lv_iconst (v := -1) C.1 C.2.1 dX12_paneLine_20 (by decide) ?_
  refine lv_icmp_ne (tgt := 43) C.1 C.2.1 dX12_paneLine_21 (by decide) (fun c21 => ?_) (fun c21 => ?_)
  · replace h := ineg c21 h
    exact w_X12_paneLine_43 C G X (lv_sub hl [0] rfl) h
  · replace h := ipos c21 h
    refine lv_aload_n C.1 C.2.1 dX12_paneLine_24 rfl (lv_at hl 0 rfl) ?_
    refine ldS C G (i := 108) (tx := "oil") (ti := 9) (by decide +kernel) dX12_paneLine_25 ?_
    obtain ⟨r27, σ27, e27, h⟩ := bnd2 h
    refine afI (r0 := r27) (σ' := σ27) X (runV C G X q_X12_has k_1771 kp_33 k_1769 (rcX12 G X kd_399) (c_X12_has l E e27) rfl hl.1 rfl (Nat.le_of_ble_eq_true rfl) ⟨Nat.le_of_ble_eq_true rfl, Nat.le_of_ble_eq_true rfl⟩ ⟨Nat.le_of_ble_eq_true rfl, Nat.le_of_ble_eq_true rfl⟩ dX12_paneLine_27) (fun H locs X => ?_)
    refine lv_if_eq (tgt := 43) C.1 C.2.1 dX12_paneLine_30 (by decide) (fun c30 => ?_) (fun c30 => ?_)
    · replace h := ipos c30 h
      exact w_X12_paneLine_43 C G X (lv_sub hl [0] rfl) h
    · replace h := ineg c30 h
      refine lv_aload_n C.1 C.2.1 dX12_paneLine_33 rfl (lv_at hl 0 rfl) ?_
      refine lv_iconst (v := 0) C.1 C.2.1 dX12_paneLine_34 (by decide) ?_
      refine lv_bipush (v := 99) C.1 C.2.1 dX12_paneLine_35 (by decide) ?_
      obtain ⟨r37, σ37, e37, h⟩ := bnd2 h
      refine afI (r0 := r37) (σ' := σ37) X (runV C G X q_X12_figures k_1779 kp_34 k_1777 (rcX12 G X kd_399) (c_X12_figures l E e37) rfl hl.1 rfl (Nat.le_of_ble_eq_true rfl) ⟨Nat.le_of_ble_eq_true rfl, Nat.le_of_ble_eq_true rfl⟩ ⟨Nat.le_of_ble_eq_true rfl, Nat.le_of_ble_eq_true rfl⟩ dX12_paneLine_37) (fun H locs X => ?_)
      refine lv_goto (tgt := 45) C.1 C.2.1 dX12_paneLine_40 (by decide) ?_
      exact w_X12_paneLine_45 C G X (lv_sub hl [0] rfl) h

set_option maxRecDepth 20000 in
theorem w_X12_paneLine {r : Mem} {σ : Mem} {x1 : Int32} {ls : Array Slot} {H : Heap} {locs : List Loc} (C : Cx p s m args meth c cX12_paneLine none 7 RX12) (G : Gf E s) (X : Hx E σ s H locs) (hl : lv_has ls 7 [(0, .ref (gB E + 399)), (1, .int x1)]) (h : X12_paneLine x1 σ = some r) : W p l e (RM 10) s m args below meth c H locs 0 0 (QV E below args s r) (F0 m 0 ls []) := by
  rw [X12_paneLine] at h
  refine lv_aload_n C.1 C.2.1 dX12_paneLine_0 rfl (lv_at hl 0 rfl) ?_
  refine gfX12 C G X (k := 399) kd_399 1 (v := .ref (gB E + 400)) rfl rfl (by decide) k_1652 rfl dX12_paneLine_1 ?_
  refine lv_iconst (v := 3) C.1 C.2.1 dX12_paneLine_4 (by decide) ?_
  obtain ⟨r5, e5, h⟩ := bnd h
  refine ald C G X (k := 400) kd_400 (ag_s e5).1 dX12_paneLine_5 ?_
  rw [(ag_s e5).2]
  refine lv_bipush (v := 9) C.1 C.2.1 dX12_paneLine_6 (by decide) ?_
  refine lv_icmp_ne (tgt := 16) C.1 C.2.1 dX12_paneLine_8 (by decide) (fun c8 => ?_) (fun c8 => ?_)
  · replace h := ineg c8 h
    exact w_X12_paneLine_16 C G X (lv_sub hl [0] rfl) h
  · replace h := ipos c8 h
    refine lv_aload_n C.1 C.2.1 dX12_paneLine_11 rfl (lv_at hl 0 rfl) ?_
    refine lv_iload_n C.1 C.2.1 dX12_paneLine_12 rfl (lv_at hl 1 rfl) ?_
    obtain ⟨σ13, e13, h⟩ := bnd h
    refine afV X (runV C G X q_X12_wrong k_1762 kp_31 k_1760 (rcX12 G X kd_399) (c_X12_wrong l E e13) rfl hl.1 rfl (Nat.le_of_ble_eq_true rfl) ⟨Nat.le_of_ble_eq_true rfl, Nat.le_of_ble_eq_true rfl⟩ ⟨Nat.le_of_ble_eq_true rfl, Nat.le_of_ble_eq_true rfl⟩ dX12_paneLine_13) (fun H locs X => ?_)
    exact w_X12_paneLine_16 C G X (lv_sub hl [0] rfl) h

theorem c_X12_paneLine (l : Launch) (E : GE) {σ : Mem} {x1 : Int32} {r : Mem} (h : X12_paneLine x1 σ = some r) : CtV l E yX12_paneLine cX12_paneLine 7 10 [.ref (gB E + 399), .int x1] σ r := by
  refine Met.ofW (cc := cX12_paneLine) (maxL := 7) (ret := none) (by decide) rfl ?_
  intro p e s m args below meth c s₁ B hml hv
  obtain ⟨rfl, G, X⟩ := start hv
  have C := cxof B hml
  have hl := lv_entry [.ref (gB E + 399), .int x1] (n := 7) (Nat.le_of_ble_eq_true rfl)
  rw [lg_entry_eq]
  generalize (lg_sl [.ref (gB E + 399), .int x1] ++ List.replicate (7 - (lg_sl [.ref (gB E + 399), .int x1]).length) Slot.unset).toArray = ls at hl ⊢
  exact w_X12_paneLine C G X hl h

set_option maxRecDepth 20000 in
theorem w_X12_walkerLine_244 {r : Mem} (C : Cx p s m args meth c cX12_walkerLine none 8 RX12) (G : Gf E s) : ∀ (f : Nat) {x6 : Int32} {x7 : Int32} {σ : Mem} {ls : Array Slot} {H : Heap} {locs : List Loc}, Hx E σ s H locs → lv_has ls 8 [(0, .ref (gB E + 399)), (6, .int x6), (7, .int x7)] → X12_walkerLine_244 f x6 x7 σ = some r → W p l e (RM 11) s m args below meth c H locs 0 0 (QV E below args s r) (F0 m 244 ls []) := by
  intro f
  induction f with
  | zero =>
    intro x6 x7 σ ls H locs X hl h
    rw [X12_walkerLine_244] at h
    cases h
  | succ f ih =>
    intro x6 x7 σ ls H locs X hl h
    rw [X12_walkerLine_244] at h
    refine lv_iload C.1 C.2.1 dX12_walkerLine_244 (lv_at hl 2 rfl) ?_
    refine lv_bipush (v := 6) C.1 C.2.1 dX12_walkerLine_246 (by decide) ?_
    refine lv_icmp_ge (tgt := 293) C.1 C.2.1 dX12_walkerLine_248 (by decide) (fun c248 => ?_) (fun c248 => ?_)
    · replace h := ipos c248 h
      refine lv_aload_n C.1 C.2.1 dX12_walkerLine_293 rfl (lv_at hl 0 rfl) ?_
      refine gfX12 C G X (k := 399) kd_399 1 (v := .ref (gB E + 400)) rfl rfl (by decide) k_1652 rfl dX12_walkerLine_294 ?_
      refine lv_iconst (v := 4) C.1 C.2.1 dX12_walkerLine_297 (by decide) ?_
      refine lv_dup2_11 C.1 C.2.1 dX12_walkerLine_298 rfl rfl ?_
      obtain ⟨r299, e299, h⟩ := bnd h
      refine ald C G X (k := 400) kd_400 (ag_s e299).1 dX12_walkerLine_299 ?_
      rw [(ag_s e299).2]
      refine lv_iconst (v := 1) C.1 C.2.1 dX12_walkerLine_300 (by decide) ?_
      refine lv_iadd C.1 C.2.1 dX12_walkerLine_301 ?_
      obtain ⟨σ302, e302, h⟩ := bnd h
      refine ast C G X (k := 400) kd_400 (au_s e302).1 dX12_walkerLine_302 (fun H locs X => ?_)
      rw [(au_s e302).2] at X
      rw [← Option.some.inj h]
      exact rtV C X dX12_walkerLine_303
    · replace h := ineg c248 h
      refine lv_aload_n C.1 C.2.1 dX12_walkerLine_251 rfl (lv_at hl 0 rfl) ?_
      refine gfX12 C G X (k := 399) kd_399 1 (v := .ref (gB E + 400)) rfl rfl (by decide) k_1652 rfl dX12_walkerLine_252 ?_
      refine lv_sipush (v := 152) C.1 C.2.1 dX12_walkerLine_255 (by decide) ?_
      refine lv_bipush (v := 6) C.1 C.2.1 dX12_walkerLine_258 (by decide) ?_
      refine lv_iload C.1 C.2.1 dX12_walkerLine_260 (lv_at hl 1 rfl) ?_
      refine lv_imul C.1 C.2.1 dX12_walkerLine_262 ?_
      refine lv_iadd C.1 C.2.1 dX12_walkerLine_263 ?_
      refine lv_iload C.1 C.2.1 dX12_walkerLine_264 (lv_at hl 2 rfl) ?_
      refine lv_iadd C.1 C.2.1 dX12_walkerLine_266 ?_
      refine lv_iconst (v := 5) C.1 C.2.1 dX12_walkerLine_267 (by decide) ?_
      obtain ⟨σ268, e268, h⟩ := bnd h
      refine ast C G X (k := 400) kd_400 (au_s e268).1 dX12_walkerLine_268 (fun H locs X => ?_)
      rw [(au_s e268).2] at X
      refine lv_aload_n C.1 C.2.1 dX12_walkerLine_269 rfl (lv_at hl 0 rfl) ?_
      refine gfX12 C G X (k := 399) kd_399 1 (v := .ref (gB E + 400)) rfl rfl (by decide) k_1652 rfl dX12_walkerLine_270 ?_
      refine lv_sipush (v := 152) C.1 C.2.1 dX12_walkerLine_273 (by decide) ?_
      refine lv_bipush (v := 6) C.1 C.2.1 dX12_walkerLine_276 (by decide) ?_
      refine lv_iload C.1 C.2.1 dX12_walkerLine_278 (lv_at hl 2 rfl) ?_
      refine lv_imul C.1 C.2.1 dX12_walkerLine_280 ?_
      refine lv_iadd C.1 C.2.1 dX12_walkerLine_281 ?_
      refine lv_iload C.1 C.2.1 dX12_walkerLine_282 (lv_at hl 1 rfl) ?_
      refine lv_iadd C.1 C.2.1 dX12_walkerLine_284 ?_
      refine lv_iconst (v := 5) C.1 C.2.1 dX12_walkerLine_285 (by decide) ?_
      obtain ⟨σ286, e286, h⟩ := bnd h
      refine ast C G X (k := 400) kd_400 (au_s e286).1 dX12_walkerLine_286 (fun H locs X => ?_)
      rw [(au_s e286).2] at X
      refine lv_iinc (v := (x7 + 1)) (lv' := [(7, .int (x7 + 1)), (0, .ref (gB E + 399)), (6, .int x6)]) C.1 C.2.1 dX12_walkerLine_287 hl (k := 2) rfl rfl (by decide) rfl (fun ls hl => ?_)
      refine lv_goto (tgt := 244) C.1 C.2.1 dX12_walkerLine_290 (by decide) ?_
      exact ih X (lv_sub hl [1, 2, 0] rfl) h

set_option maxRecDepth 20000 in
theorem w_X12_walkerLine_241 {r : Mem} {σ : Mem} {x6 : Int32} {ls : Array Slot} {H : Heap} {locs : List Loc} (C : Cx p s m args meth c cX12_walkerLine none 8 RX12) (G : Gf E s) (X : Hx E σ s H locs) (hl : lv_has ls 8 [(0, .ref (gB E + 399)), (6, .int x6)]) (h : X12_walkerLine_241 x6 σ = some r) : W p l e (RM 11) s m args below meth c H locs 0 0 (QV E below args s r) (F0 m 241 ls []) := by
  rw [X12_walkerLine_241] at h
  refine lv_iconst (v := 0) C.1 C.2.1 dX12_walkerLine_241 (by decide) ?_
  refine lv_istore (lv' := [(7, .int (0 : Int32)), (0, .ref (gB E + 399)), (6, .int x6)]) C.1 C.2.1 dX12_walkerLine_242 hl (by decide) rfl (fun ls hl => ?_)
  exact w_X12_walkerLine_244 C G FU X (lv_sub hl [1, 2, 0] rfl) h

set_option maxRecDepth 20000 in
theorem w_X12_walkerLine_142 {r : Mem} {σ : Mem} {x2 : Int32} {x3 : Int32} {x4 : Int32} {y0 : Int32} {ls : Array Slot} {H : Heap} {locs : List Loc} (C : Cx p s m args meth c cX12_walkerLine none 8 RX12) (G : Gf E s) (X : Hx E σ s H locs) (hl : lv_has ls 8 [(0, .ref (gB E + 399)), (2, .int x2), (3, .int x3), (4, .int x4)]) (h : X12_walkerLine_142 x2 x3 x4 y0 σ = some r) : W p l e (RM 11) s m args below meth c H locs 0 0 (QV E below args s r) (F0 m 142 ls [.int y0]) := by
  rw [X12_walkerLine_142] at h
  refine lv_istore (lv' := [(5, .int y0), (0, .ref (gB E + 399)), (2, .int x2), (3, .int x3), (4, .int x4)]) C.1 C.2.1 dX12_walkerLine_142 hl (by decide) rfl (fun ls hl => ?_)
  refine lv_aload_n C.1 C.2.1 dX12_walkerLine_144 rfl (lv_at hl 1 rfl) ?_
  refine gfX12 C G X (k := 399) kd_399 12 (v := .int (σ 399 12)) rfl rfl (by decide) k_1663 rfl dX12_walkerLine_145 ?_
  refine lv_iconst (v := -1) C.1 C.2.1 dX12_walkerLine_148 (by decide) ?_
  refine lv_icmp_eq (tgt := 153) C.1 C.2.1 dX12_walkerLine_149 (by decide) (fun c149 => ?_) (fun c149 => ?_)
  · replace h := ipos c149 h
    refine lv_aload_n C.1 C.2.1 dX12_walkerLine_153 rfl (lv_at hl 1 rfl) ?_
    refine gfX12 C G X (k := 399) kd_399 1 (v := .ref (gB E + 400)) rfl rfl (by decide) k_1652 rfl dX12_walkerLine_154 ?_
    refine lv_iconst (v := 4) C.1 C.2.1 dX12_walkerLine_157 (by decide) ?_
    obtain ⟨r158, e158, h⟩ := bnd h
    refine ald C G X (k := 400) kd_400 (ag_s e158).1 dX12_walkerLine_158 ?_
    rw [(ag_s e158).2]
    refine lv_istore (lv' := [(6, .int r158), (5, .int y0), (0, .ref (gB E + 399)), (2, .int x2), (3, .int x3), (4, .int x4)]) C.1 C.2.1 dX12_walkerLine_159 hl (by decide) rfl (fun ls hl => ?_)
    refine lv_aload_n C.1 C.2.1 dX12_walkerLine_161 rfl (lv_at hl 2 rfl) ?_
    refine gfX12 C G X (k := 399) kd_399 1 (v := .ref (gB E + 400)) rfl rfl (by decide) k_1652 rfl dX12_walkerLine_162 ?_
    refine lv_sipush (v := 128) C.1 C.2.1 dX12_walkerLine_165 (by decide) ?_
    refine lv_iconst (v := 4) C.1 C.2.1 dX12_walkerLine_168 (by decide) ?_
    refine lv_iload C.1 C.2.1 dX12_walkerLine_169 (lv_at hl 0 rfl) ?_
    refine lv_imul C.1 C.2.1 dX12_walkerLine_171 ?_
    refine lv_iadd C.1 C.2.1 dX12_walkerLine_172 ?_
    refine lv_iconst (v := 0) C.1 C.2.1 dX12_walkerLine_173 (by decide) ?_
    refine lv_iadd C.1 C.2.1 dX12_walkerLine_174 ?_
    refine lv_iload_n C.1 C.2.1 dX12_walkerLine_175 rfl (lv_at hl 3 rfl) ?_
    obtain ⟨σ176, e176, h⟩ := bnd h
    refine ast C G X (k := 400) kd_400 (au_s e176).1 dX12_walkerLine_176 (fun H locs X => ?_)
    rw [(au_s e176).2] at X
    refine lv_aload_n C.1 C.2.1 dX12_walkerLine_177 rfl (lv_at hl 2 rfl) ?_
    refine gfX12 C G X (k := 399) kd_399 1 (v := .ref (gB E + 400)) rfl rfl (by decide) k_1652 rfl dX12_walkerLine_178 ?_
    refine lv_sipush (v := 128) C.1 C.2.1 dX12_walkerLine_181 (by decide) ?_
    refine lv_iconst (v := 4) C.1 C.2.1 dX12_walkerLine_184 (by decide) ?_
    refine lv_iload C.1 C.2.1 dX12_walkerLine_185 (lv_at hl 0 rfl) ?_
    refine lv_imul C.1 C.2.1 dX12_walkerLine_187 ?_
    refine lv_iadd C.1 C.2.1 dX12_walkerLine_188 ?_
    refine lv_iconst (v := 1) C.1 C.2.1 dX12_walkerLine_189 (by decide) ?_
    refine lv_iadd C.1 C.2.1 dX12_walkerLine_190 ?_
    refine lv_iload_n C.1 C.2.1 dX12_walkerLine_191 rfl (lv_at hl 4 rfl) ?_
    obtain ⟨σ192, e192, h⟩ := bnd h
    refine ast C G X (k := 400) kd_400 (au_s e192).1 dX12_walkerLine_192 (fun H locs X => ?_)
    rw [(au_s e192).2] at X
    refine lv_aload_n C.1 C.2.1 dX12_walkerLine_193 rfl (lv_at hl 2 rfl) ?_
    refine gfX12 C G X (k := 399) kd_399 1 (v := .ref (gB E + 400)) rfl rfl (by decide) k_1652 rfl dX12_walkerLine_194 ?_
    refine lv_sipush (v := 128) C.1 C.2.1 dX12_walkerLine_197 (by decide) ?_
    refine lv_iconst (v := 4) C.1 C.2.1 dX12_walkerLine_200 (by decide) ?_
    refine lv_iload C.1 C.2.1 dX12_walkerLine_201 (lv_at hl 0 rfl) ?_
    refine lv_imul C.1 C.2.1 dX12_walkerLine_203 ?_
    refine lv_iadd C.1 C.2.1 dX12_walkerLine_204 ?_
    refine lv_iconst (v := 2) C.1 C.2.1 dX12_walkerLine_205 (by decide) ?_
    refine lv_iadd C.1 C.2.1 dX12_walkerLine_206 ?_
    refine lv_iload C.1 C.2.1 dX12_walkerLine_207 (lv_at hl 1 rfl) ?_
    obtain ⟨σ209, e209, h⟩ := bnd h
    refine ast C G X (k := 400) kd_400 (au_s e209).1 dX12_walkerLine_209 (fun H locs X => ?_)
    rw [(au_s e209).2] at X
    refine lv_aload_n C.1 C.2.1 dX12_walkerLine_210 rfl (lv_at hl 2 rfl) ?_
    refine gfX12 C G X (k := 399) kd_399 1 (v := .ref (gB E + 400)) rfl rfl (by decide) k_1652 rfl dX12_walkerLine_211 ?_
    refine lv_sipush (v := 128) C.1 C.2.1 dX12_walkerLine_214 (by decide) ?_
    refine lv_iconst (v := 4) C.1 C.2.1 dX12_walkerLine_217 (by decide) ?_
    refine lv_iload C.1 C.2.1 dX12_walkerLine_218 (lv_at hl 0 rfl) ?_
    refine lv_imul C.1 C.2.1 dX12_walkerLine_220 ?_
    refine lv_iadd C.1 C.2.1 dX12_walkerLine_221 ?_
    refine lv_iconst (v := 3) C.1 C.2.1 dX12_walkerLine_222 (by decide) ?_
    refine lv_iadd C.1 C.2.1 dX12_walkerLine_223 ?_
    refine lv_iconst (v := 0) C.1 C.2.1 dX12_walkerLine_224 (by decide) ?_
    obtain ⟨σ225, e225, h⟩ := bnd h
    refine ast C G X (k := 400) kd_400 (au_s e225).1 dX12_walkerLine_225 (fun H locs X => ?_)
    rw [(au_s e225).2] at X
    refine lv_iload C.1 C.2.1 dX12_walkerLine_226 (lv_at hl 5 rfl) ?_
    refine lv_iconst (v := -1) C.1 C.2.1 dX12_walkerLine_228 (by decide) ?_
    refine lv_icmp_eq (tgt := 241) C.1 C.2.1 dX12_walkerLine_229 (by decide) (fun c229 => ?_) (fun c229 => ?_)
    · replace h := ipos c229 h
      exact w_X12_walkerLine_241 C G X (lv_sub hl [2, 0] rfl) h
    · replace h := ineg c229 h
      refine lv_aload_n C.1 C.2.1 dX12_walkerLine_232 rfl (lv_at hl 2 rfl) ?_
      refine lv_iload C.1 C.2.1 dX12_walkerLine_233 (lv_at hl 5 rfl) ?_
      refine lv_iconst (v := 2) C.1 C.2.1 dX12_walkerLine_235 (by decide) ?_
      refine lv_iload C.1 C.2.1 dX12_walkerLine_236 (lv_at hl 0 rfl) ?_
      obtain ⟨σ238, e238, h⟩ := bnd h
      refine afV X (runV C G X q_X12_lays k_1837 kp_45 k_1835 (rcX12 G X kd_399) (c_X12_lays l E e238) rfl hl.1 rfl (Nat.le_of_ble_eq_true rfl) ⟨Nat.le_of_ble_eq_true rfl, Nat.le_of_ble_eq_true rfl⟩ ⟨Nat.le_of_ble_eq_true rfl, Nat.le_of_ble_eq_true rfl⟩ dX12_walkerLine_238) (fun H locs X => ?_)
      exact w_X12_walkerLine_241 C G X (lv_sub hl [2, 0] rfl) h
  · replace h := ineg c149 h
    rw [← Option.some.inj h]
    exact rtV C X dX12_walkerLine_152

set_option maxRecDepth 20000 in
theorem w_X12_walkerLine_141 {r : Mem} {σ : Mem} {x2 : Int32} {x3 : Int32} {x4 : Int32} {ls : Array Slot} {H : Heap} {locs : List Loc} (C : Cx p s m args meth c cX12_walkerLine none 8 RX12) (G : Gf E s) (X : Hx E σ s H locs) (hl : lv_has ls 8 [(0, .ref (gB E + 399)), (2, .int x2), (3, .int x3), (4, .int x4)]) (h : X12_walkerLine_141 x2 x3 x4 σ = some r) : W p l e (RM 11) s m args below meth c H locs 0 0 (QV E below args s r) (F0 m 141 ls []) := by
  rw [X12_walkerLine_141] at h
  refine lv_iconst (v := -1) C.1 C.2.1 dX12_walkerLine_141 (by decide) ?_
  exact w_X12_walkerLine_142 C G X (lv_sub hl [0, 1, 2, 3] rfl) h

set_option maxRecDepth 20000 in
theorem w_X12_walkerLine_108 {r : Mem} {σ : Mem} {x2 : Int32} {x3 : Int32} {x4 : Int32} {ls : Array Slot} {H : Heap} {locs : List Loc} (C : Cx p s m args meth c cX12_walkerLine none 8 RX12) (G : Gf E s) (X : Hx E σ s H locs) (hl : lv_has ls 8 [(0, .ref (gB E + 399)), (2, .int x2), (3, .int x3), (4, .int x4)]) (h : X12_walkerLine_108 x2 x3 x4 σ = some r) : W p l e (RM 11) s m args below meth c H locs 0 0 (QV E below args s r) (F0 m 108 ls []) := by
  rw [X12_walkerLine_108] at h
  refine lv_aload_n C.1 C.2.1 dX12_walkerLine_108 rfl (lv_at hl 0 rfl) ?_
  refine gfX12 C G X (k := 399) kd_399 12 (v := .int (σ 399 12)) rfl rfl (by decide) k_1663 rfl dX12_walkerLine_109 ?_
  refine lv_iconst (v := -1) C.1 C.2.1 dX12_walkerLine_112 (by decide) ?_
  refine lv_icmp_ne (tgt := 141) C.1 C.2.1 dX12_walkerLine_113 (by decide) (fun c113 => ?_) (fun c113 => ?_)
  · replace h := ineg c113 h
    exact w_X12_walkerLine_141 C G X (lv_sub hl [0, 1, 2, 3] rfl) h
  · replace h := ipos c113 h
    refine lv_aload_n C.1 C.2.1 dX12_walkerLine_116 rfl (lv_at hl 0 rfl) ?_
    refine ldS C G (i := 131) (tx := "heads") (ti := 19) (by decide +kernel) dX12_walkerLine_117 ?_
    obtain ⟨r119, σ119, e119, h⟩ := bnd2 h
    refine afI (r0 := r119) (σ' := σ119) X (runV C G X q_X12_has k_1771 kp_33 k_1769 (rcX12 G X kd_399) (c_X12_has l E e119) rfl hl.1 rfl (Nat.le_of_ble_eq_true rfl) ⟨Nat.le_of_ble_eq_true rfl, Nat.le_of_ble_eq_true rfl⟩ ⟨Nat.le_of_ble_eq_true rfl, Nat.le_of_ble_eq_true rfl⟩ dX12_walkerLine_119) (fun H locs X => ?_)
    refine lv_if_eq (tgt := 141) C.1 C.2.1 dX12_walkerLine_122 (by decide) (fun c122 => ?_) (fun c122 => ?_)
    · replace h := ipos c122 h
      exact w_X12_walkerLine_141 C G X (lv_sub hl [0, 1, 2, 3] rfl) h
    · replace h := ineg c122 h
      refine lv_aload_n C.1 C.2.1 dX12_walkerLine_125 rfl (lv_at hl 0 rfl) ?_
      refine lv_iconst (v := 0) C.1 C.2.1 dX12_walkerLine_126 (by decide) ?_
      refine lv_aload_n C.1 C.2.1 dX12_walkerLine_127 rfl (lv_at hl 0 rfl) ?_
      refine gfX12 C G X (k := 399) kd_399 1 (v := .ref (gB E + 400)) rfl rfl (by decide) k_1652 rfl dX12_walkerLine_128 ?_
      refine lv_iconst (v := 3) C.1 C.2.1 dX12_walkerLine_131 (by decide) ?_
      obtain ⟨r132, e132, h⟩ := bnd h
      refine ald C G X (k := 400) kd_400 (ag_s e132).1 dX12_walkerLine_132 ?_
      rw [(ag_s e132).2]
      refine lv_iconst (v := 1) C.1 C.2.1 dX12_walkerLine_133 (by decide) ?_
      refine lv_isub C.1 C.2.1 dX12_walkerLine_134 ?_
      obtain ⟨r135, σ135, e135, h⟩ := bnd2 h
      refine afI (r0 := r135) (σ' := σ135) X (runV C G X q_X12_figures k_1779 kp_34 k_1777 (rcX12 G X kd_399) (c_X12_figures l E e135) rfl hl.1 rfl (Nat.le_of_ble_eq_true rfl) ⟨Nat.le_of_ble_eq_true rfl, Nat.le_of_ble_eq_true rfl⟩ ⟨Nat.le_of_ble_eq_true rfl, Nat.le_of_ble_eq_true rfl⟩ dX12_walkerLine_135) (fun H locs X => ?_)
      refine lv_goto (tgt := 142) C.1 C.2.1 dX12_walkerLine_138 (by decide) ?_
      exact w_X12_walkerLine_142 C G X (lv_sub hl [0, 1, 2, 3] rfl) h

set_option maxRecDepth 20000 in
theorem w_X12_walkerLine_16 {r : Mem} {σ : Mem} {ls : Array Slot} {H : Heap} {locs : List Loc} (C : Cx p s m args meth c cX12_walkerLine none 8 RX12) (G : Gf E s) (X : Hx E σ s H locs) (hl : lv_has ls 8 [(0, .ref (gB E + 399))]) (h : X12_walkerLine_16 σ = some r) : W p l e (RM 11) s m args below meth c H locs 0 0 (QV E below args s r) (F0 m 16 ls []) := by
  rw [X12_walkerLine_16] at h
  refine lv_aload_n C.1 C.2.1 dX12_walkerLine_16 rfl (lv_at hl 0 rfl) ?_
  refine ldS C G (i := 119) (tx := "at") (ti := 17) (by decide +kernel) dX12_walkerLine_17 ?_
  refine lv_iconst (v := 0) C.1 C.2.1 dX12_walkerLine_19 (by decide) ?_
  refine lv_aload_n C.1 C.2.1 dX12_walkerLine_20 rfl (lv_at hl 0 rfl) ?_
  refine gfX12 C G X (k := 399) kd_399 1 (v := .ref (gB E + 400)) rfl rfl (by decide) k_1652 rfl dX12_walkerLine_21 ?_
  refine lv_iconst (v := 3) C.1 C.2.1 dX12_walkerLine_24 (by decide) ?_
  obtain ⟨r25, e25, h⟩ := bnd h
  refine ald C G X (k := 400) kd_400 (ag_s e25).1 dX12_walkerLine_25 ?_
  rw [(ag_s e25).2]
  refine lv_iconst (v := 1) C.1 C.2.1 dX12_walkerLine_26 (by decide) ?_
  refine lv_isub C.1 C.2.1 dX12_walkerLine_27 ?_
  obtain ⟨r28, σ28, e28, h⟩ := bnd2 h
  refine afI (r0 := r28) (σ' := σ28) X (runV C G X q_X12_after k_1850 kp_48 k_1848 (rcX12 G X kd_399) (c_X12_after l E e28) rfl hl.1 rfl (Nat.le_of_ble_eq_true rfl) ⟨Nat.le_of_ble_eq_true rfl, Nat.le_of_ble_eq_true rfl⟩ ⟨Nat.le_of_ble_eq_true rfl, Nat.le_of_ble_eq_true rfl⟩ dX12_walkerLine_28) (fun H locs X => ?_)
  refine lv_istore_n (lv' := [(2, .int r28), (0, .ref (gB E + 399))]) C.1 C.2.1 dX12_walkerLine_31 rfl hl (by decide) rfl (fun ls hl => ?_)
  refine lv_aload_n C.1 C.2.1 dX12_walkerLine_32 rfl (lv_at hl 1 rfl) ?_
  refine ldS C G (i := 124) (tx := "taper") (ti := 11) (by decide +kernel) dX12_walkerLine_33 ?_
  refine lv_iconst (v := 0) C.1 C.2.1 dX12_walkerLine_35 (by decide) ?_
  refine lv_bipush (v := 99) C.1 C.2.1 dX12_walkerLine_36 (by decide) ?_
  obtain ⟨r38, σ38, e38, h⟩ := bnd2 h
  refine afI (r0 := r38) (σ' := σ38) X (runV C G X q_X12_after k_1850 kp_48 k_1848 (rcX12 G X kd_399) (c_X12_after l E e38) rfl hl.1 rfl (Nat.le_of_ble_eq_true rfl) ⟨Nat.le_of_ble_eq_true rfl, Nat.le_of_ble_eq_true rfl⟩ ⟨Nat.le_of_ble_eq_true rfl, Nat.le_of_ble_eq_true rfl⟩ dX12_walkerLine_38) (fun H locs X => ?_)
  refine lv_istore_n (lv' := [(3, .int r38), (2, .int r28), (0, .ref (gB E + 399))]) C.1 C.2.1 dX12_walkerLine_41 rfl hl (by decide) rfl (fun ls hl => ?_)
  refine lv_iconst (v := -1) C.1 C.2.1 dX12_walkerLine_42 (by decide) ?_
  refine lv_istore (lv' := [(4, .int (-1 : Int32)), (3, .int r38), (2, .int r28), (0, .ref (gB E + 399))]) C.1 C.2.1 dX12_walkerLine_43 hl (by decide) rfl (fun ls hl => ?_)
  refine lv_aload_n C.1 C.2.1 dX12_walkerLine_45 rfl (lv_at hl 3 rfl) ?_
  refine gfX12 C G X (k := 399) kd_399 12 (v := .int (σ38 399 12)) rfl rfl (by decide) k_1663 rfl dX12_walkerLine_46 ?_
  refine lv_iconst (v := -1) C.1 C.2.1 dX12_walkerLine_49 (by decide) ?_
  refine lv_icmp_ne (tgt := 108) C.1 C.2.1 dX12_walkerLine_50 (by decide) (fun c50 => ?_) (fun c50 => ?_)
  · replace h := ineg c50 h
    exact w_X12_walkerLine_108 C G X (lv_sub hl [3, 2, 1, 0] rfl) h
  · replace h := ipos c50 h
    refine lv_aload_n C.1 C.2.1 dX12_walkerLine_53 rfl (lv_at hl 3 rfl) ?_
    refine ldS C G (i := 126) (tx := "owns") (ti := 18) (by decide +kernel) dX12_walkerLine_54 ?_
    obtain ⟨r56, σ56, e56, h⟩ := bnd2 h
    refine afI (r0 := r56) (σ' := σ56) X (runV C G X q_X12_has k_1771 kp_33 k_1769 (rcX12 G X kd_399) (c_X12_has l E e56) rfl hl.1 rfl (Nat.le_of_ble_eq_true rfl) ⟨Nat.le_of_ble_eq_true rfl, Nat.le_of_ble_eq_true rfl⟩ ⟨Nat.le_of_ble_eq_true rfl, Nat.le_of_ble_eq_true rfl⟩ dX12_walkerLine_56) (fun H locs X => ?_)
    refine lv_if_eq (tgt := 108) C.1 C.2.1 dX12_walkerLine_59 (by decide) (fun c59 => ?_) (fun c59 => ?_)
    · replace h := ipos c59 h
      exact w_X12_walkerLine_108 C G X (lv_sub hl [3, 2, 1, 0] rfl) h
    · replace h := ineg c59 h
      refine lv_aload_n C.1 C.2.1 dX12_walkerLine_62 rfl (lv_at hl 3 rfl) ?_
      obtain ⟨r63, σ63, e63, h⟩ := bnd2 h
      refine afI (r0 := r63) (σ' := σ63) X (runV C G X q_X12_here k_1783 kp_35 k_1781 (rcX12 G X kd_399) (c_X12_here l E e63) rfl hl.1 rfl (Nat.le_of_ble_eq_true rfl) ⟨Nat.le_of_ble_eq_true rfl, Nat.le_of_ble_eq_true rfl⟩ ⟨Nat.le_of_ble_eq_true rfl, Nat.le_of_ble_eq_true rfl⟩ dX12_walkerLine_63) (fun H locs X => ?_)
      refine lv_istore (lv' := [(5, .int r63), (4, .int (-1 : Int32)), (3, .int r38), (2, .int r28), (0, .ref (gB E + 399))]) C.1 C.2.1 dX12_walkerLine_66 hl (by decide) rfl (fun ls hl => ?_)
      refine lv_aload_n C.1 C.2.1 dX12_walkerLine_68 rfl (lv_at hl 4 rfl) ?_
      refine lv_iconst (v := 0) C.1 C.2.1 dX12_walkerLine_69 (by decide) ?_
      refine lv_aload_n C.1 C.2.1 dX12_walkerLine_70 rfl (lv_at hl 4 rfl) ?_
      refine gfX12 C G X (k := 399) kd_399 1 (v := .ref (gB E + 400)) rfl rfl (by decide) k_1652 rfl dX12_walkerLine_71 ?_
      refine lv_iconst (v := 3) C.1 C.2.1 dX12_walkerLine_74 (by decide) ?_
      obtain ⟨r75, e75, h⟩ := bnd h
      refine ald C G X (k := 400) kd_400 (ag_s e75).1 dX12_walkerLine_75 ?_
      rw [(ag_s e75).2]
      refine lv_iconst (v := 1) C.1 C.2.1 dX12_walkerLine_76 (by decide) ?_
      refine lv_isub C.1 C.2.1 dX12_walkerLine_77 ?_
      obtain ⟨r78, σ78, e78, h⟩ := bnd2 h
      refine afI (r0 := r78) (σ' := σ78) X (runV C G X q_X12_figures k_1779 kp_34 k_1777 (rcX12 G X kd_399) (c_X12_figures l E e78) rfl hl.1 rfl (Nat.le_of_ble_eq_true rfl) ⟨Nat.le_of_ble_eq_true rfl, Nat.le_of_ble_eq_true rfl⟩ ⟨Nat.le_of_ble_eq_true rfl, Nat.le_of_ble_eq_true rfl⟩ dX12_walkerLine_78) (fun H locs X => ?_)
      refine lv_istore (lv' := [(4, .int r78), (5, .int r63), (3, .int r38), (2, .int r28), (0, .ref (gB E + 399))]) C.1 C.2.1 dX12_walkerLine_81 hl (by decide) rfl (fun ls hl => ?_)
      refine lv_aload_n C.1 C.2.1 dX12_walkerLine_83 rfl (lv_at hl 4 rfl) ?_
      refine gfX12 C G X (k := 399) kd_399 12 (v := .int (σ78 399 12)) rfl rfl (by decide) k_1663 rfl dX12_walkerLine_84 ?_
      refine lv_iconst (v := -1) C.1 C.2.1 dX12_walkerLine_87 (by decide) ?_
      refine lv_icmp_ne (tgt := 108) C.1 C.2.1 dX12_walkerLine_88 (by decide) (fun c88 => ?_) (fun c88 => ?_)
      · replace h := ineg c88 h
        exact w_X12_walkerLine_108 C G X (lv_sub hl [4, 3, 2, 0] rfl) h
      · replace h := ipos c88 h
        refine lv_aload_n C.1 C.2.1 dX12_walkerLine_91 rfl (lv_at hl 4 rfl) ?_
        refine lv_iload C.1 C.2.1 dX12_walkerLine_92 (lv_at hl 0 rfl) ?_
        refine lv_iconst (v := 2) C.1 C.2.1 dX12_walkerLine_94 (by decide) ?_
        obtain ⟨r95, e95, h⟩ := bnd h
        refine afI X (runV C G X q_X12_of k_1855 kp_49 k_1853 (rcX12 G X kd_399) (c_X12_of l E e95) rfl hl.1 rfl (Nat.le_of_ble_eq_true rfl) ⟨Nat.le_of_ble_eq_true rfl, Nat.le_of_ble_eq_true rfl⟩ ⟨Nat.le_of_ble_eq_true rfl, Nat.le_of_ble_eq_true rfl⟩ dX12_walkerLine_95) (fun H locs X => ?_)
        refine lv_iconst (v := -1) C.1 C.2.1 dX12_walkerLine_98 (by decide) ?_
        refine lv_icmp_eq (tgt := 108) C.1 C.2.1 dX12_walkerLine_99 (by decide) (fun c99 => ?_) (fun c99 => ?_)
        · replace h := ipos c99 h
          exact w_X12_walkerLine_108 C G X (lv_sub hl [4, 3, 2, 0] rfl) h
        · replace h := ineg c99 h
          refine lv_aload_n C.1 C.2.1 dX12_walkerLine_102 rfl (lv_at hl 4 rfl) ?_
          refine lv_iload C.1 C.2.1 dX12_walkerLine_103 (lv_at hl 1 rfl) ?_
          obtain ⟨σ105, e105, h⟩ := bnd h
          refine afV X (runV C G X q_X12_wrong k_1762 kp_31 k_1760 (rcX12 G X kd_399) (c_X12_wrong l E e105) rfl hl.1 rfl (Nat.le_of_ble_eq_true rfl) ⟨Nat.le_of_ble_eq_true rfl, Nat.le_of_ble_eq_true rfl⟩ ⟨Nat.le_of_ble_eq_true rfl, Nat.le_of_ble_eq_true rfl⟩ dX12_walkerLine_105) (fun H locs X => ?_)
          exact w_X12_walkerLine_108 C G X (lv_sub hl [4, 3, 2, 0] rfl) h

set_option maxRecDepth 20000 in
theorem w_X12_walkerLine {r : Mem} {σ : Mem} {x1 : Int32} {ls : Array Slot} {H : Heap} {locs : List Loc} (C : Cx p s m args meth c cX12_walkerLine none 8 RX12) (G : Gf E s) (X : Hx E σ s H locs) (hl : lv_has ls 8 [(0, .ref (gB E + 399)), (1, .int x1)]) (h : X12_walkerLine x1 σ = some r) : W p l e (RM 11) s m args below meth c H locs 0 0 (QV E below args s r) (F0 m 0 ls []) := by
  rw [X12_walkerLine] at h
  refine lv_aload_n C.1 C.2.1 dX12_walkerLine_0 rfl (lv_at hl 0 rfl) ?_
  refine gfX12 C G X (k := 399) kd_399 1 (v := .ref (gB E + 400)) rfl rfl (by decide) k_1652 rfl dX12_walkerLine_1 ?_
  refine lv_iconst (v := 4) C.1 C.2.1 dX12_walkerLine_4 (by decide) ?_
  obtain ⟨r5, e5, h⟩ := bnd h
  refine ald C G X (k := 400) kd_400 (ag_s e5).1 dX12_walkerLine_5 ?_
  rw [(ag_s e5).2]
  refine lv_bipush (v := 6) C.1 C.2.1 dX12_walkerLine_6 (by decide) ?_
  refine lv_icmp_ne (tgt := 16) C.1 C.2.1 dX12_walkerLine_8 (by decide) (fun c8 => ?_) (fun c8 => ?_)
  · replace h := ineg c8 h
    exact w_X12_walkerLine_16 C G X (lv_sub hl [0] rfl) h
  · replace h := ipos c8 h
    refine lv_aload_n C.1 C.2.1 dX12_walkerLine_11 rfl (lv_at hl 0 rfl) ?_
    refine lv_iload_n C.1 C.2.1 dX12_walkerLine_12 rfl (lv_at hl 1 rfl) ?_
    obtain ⟨σ13, e13, h⟩ := bnd h
    refine afV X (runV C G X q_X12_wrong k_1762 kp_31 k_1760 (rcX12 G X kd_399) (c_X12_wrong l E e13) rfl hl.1 rfl (Nat.le_of_ble_eq_true rfl) ⟨Nat.le_of_ble_eq_true rfl, Nat.le_of_ble_eq_true rfl⟩ ⟨Nat.le_of_ble_eq_true rfl, Nat.le_of_ble_eq_true rfl⟩ dX12_walkerLine_13) (fun H locs X => ?_)
    exact w_X12_walkerLine_16 C G X (lv_sub hl [0] rfl) h

theorem c_X12_walkerLine (l : Launch) (E : GE) {σ : Mem} {x1 : Int32} {r : Mem} (h : X12_walkerLine x1 σ = some r) : CtV l E yX12_walkerLine cX12_walkerLine 8 11 [.ref (gB E + 399), .int x1] σ r := by
  refine Met.ofW (cc := cX12_walkerLine) (maxL := 8) (ret := none) (by decide) rfl ?_
  intro p e s m args below meth c s₁ B hml hv
  obtain ⟨rfl, G, X⟩ := start hv
  have C := cxof B hml
  have hl := lv_entry [.ref (gB E + 399), .int x1] (n := 8) (Nat.le_of_ble_eq_true rfl)
  rw [lg_entry_eq]
  generalize (lg_sl [.ref (gB E + 399), .int x1] ++ List.replicate (8 - (lg_sl [.ref (gB E + 399), .int x1]).length) Slot.unset).toArray = ls at hl ⊢
  exact w_X12_walkerLine C G X hl h

set_option maxRecDepth 20000 in
theorem w_X12_wayLine_51 {r : Mem} {σ : Mem} {x1 : Int32} {x3 : Int32} {ls : Array Slot} {H : Heap} {locs : List Loc} (C : Cx p s m args meth c cX12_wayLine none 4 RX12) (G : Gf E s) (X : Hx E σ s H locs) (hl : lv_has ls 4 [(0, .ref (gB E + 399)), (1, .int x1), (3, .int x3)]) (h : X12_wayLine_51 x1 x3 σ = some r) : W p l e (RM 5) s m args below meth c H locs 0 0 (QV E below args s r) (F0 m 51 ls []) := by
  rw [X12_wayLine_51] at h
  refine lv_aload_n C.1 C.2.1 dX12_wayLine_51 rfl (lv_at hl 0 rfl) ?_
  refine gfX12 C G X (k := 399) kd_399 12 (v := .int (σ 399 12)) rfl rfl (by decide) k_1663 rfl dX12_wayLine_52 ?_
  refine lv_iconst (v := -1) C.1 C.2.1 dX12_wayLine_55 (by decide) ?_
  refine lv_icmp_ne (tgt := 66) C.1 C.2.1 dX12_wayLine_56 (by decide) (fun c56 => ?_) (fun c56 => ?_)
  · replace h := ineg c56 h
    rw [← Option.some.inj h]
    exact rtV C X dX12_wayLine_66
  · replace h := ipos c56 h
    refine lv_aload_n C.1 C.2.1 dX12_wayLine_59 rfl (lv_at hl 0 rfl) ?_
    refine lv_iload_n C.1 C.2.1 dX12_wayLine_60 rfl (lv_at hl 1 rfl) ?_
    refine lv_iload_n C.1 C.2.1 dX12_wayLine_61 rfl (lv_at hl 2 rfl) ?_
    refine lv_iconst (v := 1) C.1 C.2.1 dX12_wayLine_62 (by decide) ?_
    obtain ⟨σ63, e63, h⟩ := bnd h
    refine afV X (runV C G X q_X12_ways k_1841 kp_46 k_1839 (rcX12 G X kd_399) (c_X12_ways l E e63) rfl hl.1 rfl (Nat.le_of_ble_eq_true rfl) ⟨Nat.le_of_ble_eq_true rfl, Nat.le_of_ble_eq_true rfl⟩ ⟨Nat.le_of_ble_eq_true rfl, Nat.le_of_ble_eq_true rfl⟩ dX12_wayLine_63) (fun H locs X => ?_)
    rw [← Option.some.inj h]
    exact rtV C X dX12_wayLine_66

set_option maxRecDepth 20000 in
theorem w_X12_wayLine {r : Mem} {σ : Mem} {ls : Array Slot} {H : Heap} {locs : List Loc} (C : Cx p s m args meth c cX12_wayLine none 4 RX12) (G : Gf E s) (X : Hx E σ s H locs) (hl : lv_has ls 4 [(0, .ref (gB E + 399))]) (h : X12_wayLine σ = some r) : W p l e (RM 5) s m args below meth c H locs 0 0 (QV E below args s r) (F0 m 0 ls []) := by
  rw [X12_wayLine] at h
  refine lv_aload_n C.1 C.2.1 dX12_wayLine_0 rfl (lv_at hl 0 rfl) ?_
  refine lv_iconst (v := 0) C.1 C.2.1 dX12_wayLine_1 (by decide) ?_
  refine lv_aload_n C.1 C.2.1 dX12_wayLine_2 rfl (lv_at hl 0 rfl) ?_
  refine gfX12 C G X (k := 399) kd_399 1 (v := .ref (gB E + 400)) rfl rfl (by decide) k_1652 rfl dX12_wayLine_3 ?_
  refine lv_iconst (v := 3) C.1 C.2.1 dX12_wayLine_6 (by decide) ?_
  obtain ⟨r7, e7, h⟩ := bnd h
  refine ald C G X (k := 400) kd_400 (ag_s e7).1 dX12_wayLine_7 ?_
  rw [(ag_s e7).2]
  refine lv_iconst (v := 1) C.1 C.2.1 dX12_wayLine_8 (by decide) ?_
  refine lv_isub C.1 C.2.1 dX12_wayLine_9 ?_
  obtain ⟨r10, σ10, e10, h⟩ := bnd2 h
  refine afI (r0 := r10) (σ' := σ10) X (runV C G X q_X12_figures k_1779 kp_34 k_1777 (rcX12 G X kd_399) (c_X12_figures l E e10) rfl hl.1 rfl (Nat.le_of_ble_eq_true rfl) ⟨Nat.le_of_ble_eq_true rfl, Nat.le_of_ble_eq_true rfl⟩ ⟨Nat.le_of_ble_eq_true rfl, Nat.le_of_ble_eq_true rfl⟩ dX12_wayLine_10) (fun H locs X => ?_)
  refine lv_istore_n (lv' := [(1, .int r10), (0, .ref (gB E + 399))]) C.1 C.2.1 dX12_wayLine_13 rfl hl (by decide) rfl (fun ls hl => ?_)
  refine lv_aload_n C.1 C.2.1 dX12_wayLine_14 rfl (lv_at hl 1 rfl) ?_
  obtain ⟨r15, σ15, e15, h⟩ := bnd2 h
  refine afI (r0 := r15) (σ' := σ15) X (runV C G X q_X12_here k_1783 kp_35 k_1781 (rcX12 G X kd_399) (c_X12_here l E e15) rfl hl.1 rfl (Nat.le_of_ble_eq_true rfl) ⟨Nat.le_of_ble_eq_true rfl, Nat.le_of_ble_eq_true rfl⟩ ⟨Nat.le_of_ble_eq_true rfl, Nat.le_of_ble_eq_true rfl⟩ dX12_wayLine_15) (fun H locs X => ?_)
  refine lv_istore_n (lv' := [(2, .int r15), (1, .int r10), (0, .ref (gB E + 399))]) C.1 C.2.1 dX12_wayLine_18 rfl hl (by decide) rfl (fun ls hl => ?_)
  refine lv_aload_n C.1 C.2.1 dX12_wayLine_19 rfl (lv_at hl 2 rfl) ?_
  refine lv_iconst (v := 0) C.1 C.2.1 dX12_wayLine_20 (by decide) ?_
  refine lv_aload_n C.1 C.2.1 dX12_wayLine_21 rfl (lv_at hl 2 rfl) ?_
  refine gfX12 C G X (k := 399) kd_399 1 (v := .ref (gB E + 400)) rfl rfl (by decide) k_1652 rfl dX12_wayLine_22 ?_
  refine lv_iconst (v := 3) C.1 C.2.1 dX12_wayLine_25 (by decide) ?_
  obtain ⟨r26, e26, h⟩ := bnd h
  refine ald C G X (k := 400) kd_400 (ag_s e26).1 dX12_wayLine_26 ?_
  rw [(ag_s e26).2]
  refine lv_iconst (v := 1) C.1 C.2.1 dX12_wayLine_27 (by decide) ?_
  refine lv_isub C.1 C.2.1 dX12_wayLine_28 ?_
  obtain ⟨r29, σ29, e29, h⟩ := bnd2 h
  refine afI (r0 := r29) (σ' := σ29) X (runV C G X q_X12_figures k_1779 kp_34 k_1777 (rcX12 G X kd_399) (c_X12_figures l E e29) rfl hl.1 rfl (Nat.le_of_ble_eq_true rfl) ⟨Nat.le_of_ble_eq_true rfl, Nat.le_of_ble_eq_true rfl⟩ ⟨Nat.le_of_ble_eq_true rfl, Nat.le_of_ble_eq_true rfl⟩ dX12_wayLine_29) (fun H locs X => ?_)
  refine lv_istore_n (lv' := [(3, .int r29), (2, .int r15), (1, .int r10), (0, .ref (gB E + 399))]) C.1 C.2.1 dX12_wayLine_32 rfl hl (by decide) rfl (fun ls hl => ?_)
  refine lv_aload_n C.1 C.2.1 dX12_wayLine_33 rfl (lv_at hl 3 rfl) ?_
  refine gfX12 C G X (k := 399) kd_399 12 (v := .int (σ29 399 12)) rfl rfl (by decide) k_1663 rfl dX12_wayLine_34 ?_
  refine lv_iconst (v := -1) C.1 C.2.1 dX12_wayLine_37 (by decide) ?_
  refine lv_icmp_ne (tgt := 51) C.1 C.2.1 dX12_wayLine_38 (by decide) (fun c38 => ?_) (fun c38 => ?_)
  · replace h := ineg c38 h
    exact w_X12_wayLine_51 C G X (lv_sub hl [3, 2, 0] rfl) h
  · replace h := ipos c38 h
    refine lv_iload_n C.1 C.2.1 dX12_wayLine_41 rfl (lv_at hl 2 rfl) ?_
    refine lv_iload_n C.1 C.2.1 dX12_wayLine_42 rfl (lv_at hl 0 rfl) ?_
    refine lv_icmp_ne (tgt := 51) C.1 C.2.1 dX12_wayLine_43 (by decide) (fun c43 => ?_) (fun c43 => ?_)
    · replace h := ineg c43 h
      exact w_X12_wayLine_51 C G X (lv_sub hl [3, 2, 0] rfl) h
    · replace h := ipos c43 h
      refine lv_aload_n C.1 C.2.1 dX12_wayLine_46 rfl (lv_at hl 3 rfl) ?_
      refine lv_iload_n C.1 C.2.1 dX12_wayLine_47 rfl (lv_at hl 1 rfl) ?_
      obtain ⟨σ48, e48, h⟩ := bnd h
      refine afV X (runV C G X q_X12_wrong k_1762 kp_31 k_1760 (rcX12 G X kd_399) (c_X12_wrong l E e48) rfl hl.1 rfl (Nat.le_of_ble_eq_true rfl) ⟨Nat.le_of_ble_eq_true rfl, Nat.le_of_ble_eq_true rfl⟩ ⟨Nat.le_of_ble_eq_true rfl, Nat.le_of_ble_eq_true rfl⟩ dX12_wayLine_48) (fun H locs X => ?_)
      exact w_X12_wayLine_51 C G X (lv_sub hl [3, 2, 0] rfl) h

theorem c_X12_wayLine (l : Launch) (E : GE) {σ : Mem} {r : Mem} (h : X12_wayLine σ = some r) : CtV l E yX12_wayLine cX12_wayLine 4 5 [.ref (gB E + 399)] σ r := by
  refine Met.ofW (cc := cX12_wayLine) (maxL := 4) (ret := none) (by decide) rfl ?_
  intro p e s m args below meth c s₁ B hml hv
  obtain ⟨rfl, G, X⟩ := start hv
  have C := cxof B hml
  have hl := lv_entry [.ref (gB E + 399)] (n := 4) (Nat.le_of_ble_eq_true rfl)
  rw [lg_entry_eq]
  generalize (lg_sl [.ref (gB E + 399)] ++ List.replicate (4 - (lg_sl [.ref (gB E + 399)]).length) Slot.unset).toArray = ls at hl ⊢
  exact w_X12_wayLine C G X hl h

set_option maxRecDepth 20000 in
theorem w_X12_likesLine_51 {r : Mem} {σ : Mem} {x1 : Int32} {x3 : Int32} {ls : Array Slot} {H : Heap} {locs : List Loc} (C : Cx p s m args meth c cX12_likesLine none 5 RX12) (G : Gf E s) (X : Hx E σ s H locs) (hl : lv_has ls 5 [(0, .ref (gB E + 399)), (1, .int x1), (3, .int x3)]) (h : X12_likesLine_51 x1 x3 σ = some r) : W p l e (RM 5) s m args below meth c H locs 0 0 (QV E below args s r) (F0 m 51 ls []) := by
  rw [X12_likesLine_51] at h
  refine lv_aload_n C.1 C.2.1 dX12_likesLine_51 rfl (lv_at hl 0 rfl) ?_
  refine lv_iconst (v := 0) C.1 C.2.1 dX12_likesLine_52 (by decide) ?_
  refine lv_bipush (v := 9) C.1 C.2.1 dX12_likesLine_53 (by decide) ?_
  obtain ⟨r55, σ55, e55, h⟩ := bnd2 h
  refine afI (r0 := r55) (σ' := σ55) X (runV C G X q_X12_figures k_1779 kp_34 k_1777 (rcX12 G X kd_399) (c_X12_figures l E e55) rfl hl.1 rfl (Nat.le_of_ble_eq_true rfl) ⟨Nat.le_of_ble_eq_true rfl, Nat.le_of_ble_eq_true rfl⟩ ⟨Nat.le_of_ble_eq_true rfl, Nat.le_of_ble_eq_true rfl⟩ dX12_likesLine_55) (fun H locs X => ?_)
  refine lv_istore (lv' := [(4, .int r55), (0, .ref (gB E + 399)), (1, .int x1), (3, .int x3)]) C.1 C.2.1 dX12_likesLine_58 hl (by decide) rfl (fun ls hl => ?_)
  refine lv_aload_n C.1 C.2.1 dX12_likesLine_60 rfl (lv_at hl 1 rfl) ?_
  refine gfX12 C G X (k := 399) kd_399 12 (v := .int (σ55 399 12)) rfl rfl (by decide) k_1663 rfl dX12_likesLine_61 ?_
  refine lv_iconst (v := -1) C.1 C.2.1 dX12_likesLine_64 (by decide) ?_
  refine lv_icmp_ne (tgt := 85) C.1 C.2.1 dX12_likesLine_65 (by decide) (fun c65 => ?_) (fun c65 => ?_)
  · replace h := ineg c65 h
    rw [← Option.some.inj h]
    exact rtV C X dX12_likesLine_85
  · replace h := ipos c65 h
    refine lv_aload_n C.1 C.2.1 dX12_likesLine_68 rfl (lv_at hl 1 rfl) ?_
    refine gfX12 C G X (k := 399) kd_399 1 (v := .ref (gB E + 400)) rfl rfl (by decide) k_1652 rfl dX12_likesLine_69 ?_
    refine lv_sipush (v := 152) C.1 C.2.1 dX12_likesLine_72 (by decide) ?_
    refine lv_bipush (v := 6) C.1 C.2.1 dX12_likesLine_75 (by decide) ?_
    refine lv_iload_n C.1 C.2.1 dX12_likesLine_77 rfl (lv_at hl 2 rfl) ?_
    refine lv_imul C.1 C.2.1 dX12_likesLine_78 ?_
    refine lv_iadd C.1 C.2.1 dX12_likesLine_79 ?_
    refine lv_iload_n C.1 C.2.1 dX12_likesLine_80 rfl (lv_at hl 3 rfl) ?_
    refine lv_iadd C.1 C.2.1 dX12_likesLine_81 ?_
    refine lv_iload C.1 C.2.1 dX12_likesLine_82 (lv_at hl 0 rfl) ?_
    obtain ⟨σ84, e84, h⟩ := bnd h
    refine ast C G X (k := 400) kd_400 (au_s e84).1 dX12_likesLine_84 (fun H locs X => ?_)
    rw [(au_s e84).2] at X
    rw [← Option.some.inj h]
    exact rtV C X dX12_likesLine_85

set_option maxRecDepth 20000 in
theorem w_X12_likesLine {r : Mem} {σ : Mem} {ls : Array Slot} {H : Heap} {locs : List Loc} (C : Cx p s m args meth c cX12_likesLine none 5 RX12) (G : Gf E s) (X : Hx E σ s H locs) (hl : lv_has ls 5 [(0, .ref (gB E + 399))]) (h : X12_likesLine σ = some r) : W p l e (RM 5) s m args below meth c H locs 0 0 (QV E below args s r) (F0 m 0 ls []) := by
  rw [X12_likesLine] at h
  refine lv_aload_n C.1 C.2.1 dX12_likesLine_0 rfl (lv_at hl 0 rfl) ?_
  refine lv_iconst (v := 0) C.1 C.2.1 dX12_likesLine_1 (by decide) ?_
  refine lv_aload_n C.1 C.2.1 dX12_likesLine_2 rfl (lv_at hl 0 rfl) ?_
  refine gfX12 C G X (k := 399) kd_399 1 (v := .ref (gB E + 400)) rfl rfl (by decide) k_1652 rfl dX12_likesLine_3 ?_
  refine lv_iconst (v := 4) C.1 C.2.1 dX12_likesLine_6 (by decide) ?_
  obtain ⟨r7, e7, h⟩ := bnd h
  refine ald C G X (k := 400) kd_400 (ag_s e7).1 dX12_likesLine_7 ?_
  rw [(ag_s e7).2]
  refine lv_iconst (v := 1) C.1 C.2.1 dX12_likesLine_8 (by decide) ?_
  refine lv_isub C.1 C.2.1 dX12_likesLine_9 ?_
  obtain ⟨r10, σ10, e10, h⟩ := bnd2 h
  refine afI (r0 := r10) (σ' := σ10) X (runV C G X q_X12_figures k_1779 kp_34 k_1777 (rcX12 G X kd_399) (c_X12_figures l E e10) rfl hl.1 rfl (Nat.le_of_ble_eq_true rfl) ⟨Nat.le_of_ble_eq_true rfl, Nat.le_of_ble_eq_true rfl⟩ ⟨Nat.le_of_ble_eq_true rfl, Nat.le_of_ble_eq_true rfl⟩ dX12_likesLine_10) (fun H locs X => ?_)
  refine lv_istore_n (lv' := [(1, .int r10), (0, .ref (gB E + 399))]) C.1 C.2.1 dX12_likesLine_13 rfl hl (by decide) rfl (fun ls hl => ?_)
  refine lv_aload_n C.1 C.2.1 dX12_likesLine_14 rfl (lv_at hl 1 rfl) ?_
  obtain ⟨r15, σ15, e15, h⟩ := bnd2 h
  refine afI (r0 := r15) (σ' := σ15) X (runV C G X q_X12_here k_1783 kp_35 k_1781 (rcX12 G X kd_399) (c_X12_here l E e15) rfl hl.1 rfl (Nat.le_of_ble_eq_true rfl) ⟨Nat.le_of_ble_eq_true rfl, Nat.le_of_ble_eq_true rfl⟩ ⟨Nat.le_of_ble_eq_true rfl, Nat.le_of_ble_eq_true rfl⟩ dX12_likesLine_15) (fun H locs X => ?_)
  refine lv_istore_n (lv' := [(2, .int r15), (1, .int r10), (0, .ref (gB E + 399))]) C.1 C.2.1 dX12_likesLine_18 rfl hl (by decide) rfl (fun ls hl => ?_)
  refine lv_aload_n C.1 C.2.1 dX12_likesLine_19 rfl (lv_at hl 2 rfl) ?_
  refine lv_iconst (v := 0) C.1 C.2.1 dX12_likesLine_20 (by decide) ?_
  refine lv_aload_n C.1 C.2.1 dX12_likesLine_21 rfl (lv_at hl 2 rfl) ?_
  refine gfX12 C G X (k := 399) kd_399 1 (v := .ref (gB E + 400)) rfl rfl (by decide) k_1652 rfl dX12_likesLine_22 ?_
  refine lv_iconst (v := 4) C.1 C.2.1 dX12_likesLine_25 (by decide) ?_
  obtain ⟨r26, e26, h⟩ := bnd h
  refine ald C G X (k := 400) kd_400 (ag_s e26).1 dX12_likesLine_26 ?_
  rw [(ag_s e26).2]
  refine lv_iconst (v := 1) C.1 C.2.1 dX12_likesLine_27 (by decide) ?_
  refine lv_isub C.1 C.2.1 dX12_likesLine_28 ?_
  obtain ⟨r29, σ29, e29, h⟩ := bnd2 h
  refine afI (r0 := r29) (σ' := σ29) X (runV C G X q_X12_figures k_1779 kp_34 k_1777 (rcX12 G X kd_399) (c_X12_figures l E e29) rfl hl.1 rfl (Nat.le_of_ble_eq_true rfl) ⟨Nat.le_of_ble_eq_true rfl, Nat.le_of_ble_eq_true rfl⟩ ⟨Nat.le_of_ble_eq_true rfl, Nat.le_of_ble_eq_true rfl⟩ dX12_likesLine_29) (fun H locs X => ?_)
  refine lv_istore_n (lv' := [(3, .int r29), (2, .int r15), (1, .int r10), (0, .ref (gB E + 399))]) C.1 C.2.1 dX12_likesLine_32 rfl hl (by decide) rfl (fun ls hl => ?_)
  refine lv_aload_n C.1 C.2.1 dX12_likesLine_33 rfl (lv_at hl 3 rfl) ?_
  refine gfX12 C G X (k := 399) kd_399 12 (v := .int (σ29 399 12)) rfl rfl (by decide) k_1663 rfl dX12_likesLine_34 ?_
  refine lv_iconst (v := -1) C.1 C.2.1 dX12_likesLine_37 (by decide) ?_
  refine lv_icmp_ne (tgt := 51) C.1 C.2.1 dX12_likesLine_38 (by decide) (fun c38 => ?_) (fun c38 => ?_)
  · replace h := ineg c38 h
    exact w_X12_likesLine_51 C G X (lv_sub hl [3, 2, 0] rfl) h
  · replace h := ipos c38 h
    refine lv_iload_n C.1 C.2.1 dX12_likesLine_41 rfl (lv_at hl 2 rfl) ?_
    refine lv_iload_n C.1 C.2.1 dX12_likesLine_42 rfl (lv_at hl 0 rfl) ?_
    refine lv_icmp_ne (tgt := 51) C.1 C.2.1 dX12_likesLine_43 (by decide) (fun c43 => ?_) (fun c43 => ?_)
    · replace h := ineg c43 h
      exact w_X12_likesLine_51 C G X (lv_sub hl [3, 2, 0] rfl) h
    · replace h := ipos c43 h
      refine lv_aload_n C.1 C.2.1 dX12_likesLine_46 rfl (lv_at hl 3 rfl) ?_
      refine lv_iload_n C.1 C.2.1 dX12_likesLine_47 rfl (lv_at hl 1 rfl) ?_
      obtain ⟨σ48, e48, h⟩ := bnd h
      refine afV X (runV C G X q_X12_wrong k_1762 kp_31 k_1760 (rcX12 G X kd_399) (c_X12_wrong l E e48) rfl hl.1 rfl (Nat.le_of_ble_eq_true rfl) ⟨Nat.le_of_ble_eq_true rfl, Nat.le_of_ble_eq_true rfl⟩ ⟨Nat.le_of_ble_eq_true rfl, Nat.le_of_ble_eq_true rfl⟩ dX12_likesLine_48) (fun H locs X => ?_)
      exact w_X12_likesLine_51 C G X (lv_sub hl [3, 2, 0] rfl) h

theorem c_X12_likesLine (l : Launch) (E : GE) {σ : Mem} {r : Mem} (h : X12_likesLine σ = some r) : CtV l E yX12_likesLine cX12_likesLine 5 5 [.ref (gB E + 399)] σ r := by
  refine Met.ofW (cc := cX12_likesLine) (maxL := 5) (ret := none) (by decide) rfl ?_
  intro p e s m args below meth c s₁ B hml hv
  obtain ⟨rfl, G, X⟩ := start hv
  have C := cxof B hml
  have hl := lv_entry [.ref (gB E + 399)] (n := 5) (Nat.le_of_ble_eq_true rfl)
  rw [lg_entry_eq]
  generalize (lg_sl [.ref (gB E + 399)] ++ List.replicate (5 - (lg_sl [.ref (gB E + 399)]).length) Slot.unset).toArray = ls at hl ⊢
  exact w_X12_likesLine C G X hl h

set_option maxRecDepth 20000 in
theorem w_X12_tells {r : Mem} {σ : Mem} {x1 : Int32} {x2 : Int32} {x3 : Int32} {ls : Array Slot} {H : Heap} {locs : List Loc} (C : Cx p s m args meth c cX12_tells none 5 RX12) (G : Gf E s) (X : Hx E σ s H locs) (hl : lv_has ls 5 [(0, .ref (gB E + 399)), (1, .int x1), (2, .int x2), (3, .int x3)]) (h : X12_tells x1 x2 x3 σ = some r) : W p l e (RM 5) s m args below meth c H locs 0 0 (QV E below args s r) (F0 m 0 ls []) := by
  rw [X12_tells] at h
  refine lv_aload_n C.1 C.2.1 dX12_tells_0 rfl (lv_at hl 0 rfl) ?_
  refine lv_iload_n C.1 C.2.1 dX12_tells_1 rfl (lv_at hl 2 rfl) ?_
  refine lv_iload_n C.1 C.2.1 dX12_tells_2 rfl (lv_at hl 3 rfl) ?_
  obtain ⟨r3, σ3, e3, h⟩ := bnd2 h
  refine afI (r0 := r3) (σ' := σ3) X (runV C G X q_X12_figures k_1779 kp_34 k_1777 (rcX12 G X kd_399) (c_X12_figures l E e3) rfl hl.1 rfl (Nat.le_of_ble_eq_true rfl) ⟨Nat.le_of_ble_eq_true rfl, Nat.le_of_ble_eq_true rfl⟩ ⟨Nat.le_of_ble_eq_true rfl, Nat.le_of_ble_eq_true rfl⟩ dX12_tells_3) (fun H locs X => ?_)
  refine lv_istore (lv' := [(4, .int r3), (0, .ref (gB E + 399)), (1, .int x1), (2, .int x2), (3, .int x3)]) C.1 C.2.1 dX12_tells_6 hl (by decide) rfl (fun ls hl => ?_)
  refine lv_aload_n C.1 C.2.1 dX12_tells_8 rfl (lv_at hl 1 rfl) ?_
  refine gfX12 C G X (k := 399) kd_399 12 (v := .int (σ3 399 12)) rfl rfl (by decide) k_1663 rfl dX12_tells_9 ?_
  refine lv_iconst (v := -1) C.1 C.2.1 dX12_tells_12 (by decide) ?_
  refine lv_icmp_ne (tgt := 24) C.1 C.2.1 dX12_tells_13 (by decide) (fun c13 => ?_) (fun c13 => ?_)
  · replace h := ineg c13 h
    rw [← Option.some.inj h]
    exact rtV C X dX12_tells_24
  · replace h := ipos c13 h
    refine lv_aload_n C.1 C.2.1 dX12_tells_16 rfl (lv_at hl 1 rfl) ?_
    refine gfX12 C G X (k := 399) kd_399 1 (v := .ref (gB E + 400)) rfl rfl (by decide) k_1652 rfl dX12_tells_17 ?_
    refine lv_iload_n C.1 C.2.1 dX12_tells_20 rfl (lv_at hl 2 rfl) ?_
    refine lv_iload C.1 C.2.1 dX12_tells_21 (lv_at hl 0 rfl) ?_
    obtain ⟨σ23, e23, h⟩ := bnd h
    refine ast C G X (k := 400) kd_400 (au_s e23).1 dX12_tells_23 (fun H locs X => ?_)
    rw [(au_s e23).2] at X
    rw [← Option.some.inj h]
    exact rtV C X dX12_tells_24

theorem c_X12_tells (l : Launch) (E : GE) {σ : Mem} {x1 : Int32} {x2 : Int32} {x3 : Int32} {r : Mem} (h : X12_tells x1 x2 x3 σ = some r) : CtV l E yX12_tells cX12_tells 5 5 [.ref (gB E + 399), .int x1, .int x2, .int x3] σ r := by
  refine Met.ofW (cc := cX12_tells) (maxL := 5) (ret := none) (by decide) rfl ?_
  intro p e s m args below meth c s₁ B hml hv
  obtain ⟨rfl, G, X⟩ := start hv
  have C := cxof B hml
  have hl := lv_entry [.ref (gB E + 399), .int x1, .int x2, .int x3] (n := 5) (Nat.le_of_ble_eq_true rfl)
  rw [lg_entry_eq]
  generalize (lg_sl [.ref (gB E + 399), .int x1, .int x2, .int x3] ++ List.replicate (5 - (lg_sl [.ref (gB E + 399), .int x1, .int x2, .int x3]).length) Slot.unset).toArray = ls at hl ⊢
  exact w_X12_tells C G X hl h

set_option maxRecDepth 20000 in
theorem w_X12_streetLine {r : Mem} {σ : Mem} {ls : Array Slot} {H : Heap} {locs : List Loc} (C : Cx p s m args meth c cX12_streetLine none 2 RX12) (G : Gf E s) (X : Hx E σ s H locs) (hl : lv_has ls 2 [(0, .ref (gB E + 399))]) (h : X12_streetLine σ = some r) : W p l e (RM 12) s m args below meth c H locs 0 0 (QV E below args s r) (F0 m 0 ls []) := by
  rw [X12_streetLine] at h
  refine lv_aload_n C.1 C.2.1 dX12_streetLine_0 rfl (lv_at hl 0 rfl) ?_
  obtain ⟨r1, σ1, e1, h⟩ := bnd2 h
  refine afI (r0 := r1) (σ' := σ1) X (runV C G X q_X12_here k_1783 kp_35 k_1781 (rcX12 G X kd_399) (c_X12_here l E e1) rfl hl.1 rfl (Nat.le_of_ble_eq_true rfl) ⟨Nat.le_of_ble_eq_true rfl, Nat.le_of_ble_eq_true rfl⟩ ⟨Nat.le_of_ble_eq_true rfl, Nat.le_of_ble_eq_true rfl⟩ dX12_streetLine_1) (fun H locs X => ?_)
  refine lv_istore_n (lv' := [(1, .int r1), (0, .ref (gB E + 399))]) C.1 C.2.1 dX12_streetLine_4 rfl hl (by decide) rfl (fun ls hl => ?_)
  refine lv_aload_n C.1 C.2.1 dX12_streetLine_5 rfl (lv_at hl 1 rfl) ?_
  refine ldS C G (i := 133) (tx := "pane") (ti := 7) (by decide +kernel) dX12_streetLine_6 ?_
  obtain ⟨r8, σ8, e8, h⟩ := bnd2 h
  refine afI (r0 := r8) (σ' := σ8) X (runV C G X q_X12_has k_1771 kp_33 k_1769 (rcX12 G X kd_399) (c_X12_has l E e8) rfl hl.1 rfl (Nat.le_of_ble_eq_true rfl) ⟨Nat.le_of_ble_eq_true rfl, Nat.le_of_ble_eq_true rfl⟩ ⟨Nat.le_of_ble_eq_true rfl, Nat.le_of_ble_eq_true rfl⟩ dX12_streetLine_8) (fun H locs X => ?_)
  refine lv_if_eq (tgt := 22) C.1 C.2.1 dX12_streetLine_11 (by decide) (fun c11 => ?_) (fun c11 => ?_)
  · replace h := ipos c11 h
    refine lv_aload_n C.1 C.2.1 dX12_streetLine_22 rfl (lv_at hl 1 rfl) ?_
    refine ldS C G (i := 138) (tx := "walker") (ti := 8) (by decide +kernel) dX12_streetLine_23 ?_
    obtain ⟨r25, σ25, e25, h⟩ := bnd2 h
    refine afI (r0 := r25) (σ' := σ25) X (runV C G X q_X12_has k_1771 kp_33 k_1769 (rcX12 G X kd_399) (c_X12_has l E e25) rfl hl.1 rfl (Nat.le_of_ble_eq_true rfl) ⟨Nat.le_of_ble_eq_true rfl, Nat.le_of_ble_eq_true rfl⟩ ⟨Nat.le_of_ble_eq_true rfl, Nat.le_of_ble_eq_true rfl⟩ dX12_streetLine_25) (fun H locs X => ?_)
    refine lv_if_eq (tgt := 39) C.1 C.2.1 dX12_streetLine_28 (by decide) (fun c28 => ?_) (fun c28 => ?_)
    · replace h := ipos c28 h
      refine lv_aload_n C.1 C.2.1 dX12_streetLine_39 rfl (lv_at hl 1 rfl) ?_
      refine ldS C G (i := 143) (tx := "way") (ti := 20) (by decide +kernel) dX12_streetLine_40 ?_
      obtain ⟨r42, σ42, e42, h⟩ := bnd2 h
      refine afI (r0 := r42) (σ' := σ42) X (runV C G X q_X12_has k_1771 kp_33 k_1769 (rcX12 G X kd_399) (c_X12_has l E e42) rfl hl.1 rfl (Nat.le_of_ble_eq_true rfl) ⟨Nat.le_of_ble_eq_true rfl, Nat.le_of_ble_eq_true rfl⟩ ⟨Nat.le_of_ble_eq_true rfl, Nat.le_of_ble_eq_true rfl⟩ dX12_streetLine_42) (fun H locs X => ?_)
      refine lv_if_eq (tgt := 55) C.1 C.2.1 dX12_streetLine_45 (by decide) (fun c45 => ?_) (fun c45 => ?_)
      · replace h := ipos c45 h
        refine lv_aload_n C.1 C.2.1 dX12_streetLine_55 rfl (lv_at hl 1 rfl) ?_
        refine ldS C G (i := 148) (tx := "likes") (ti := 12) (by decide +kernel) dX12_streetLine_56 ?_
        obtain ⟨r58, σ58, e58, h⟩ := bnd2 h
        refine afI (r0 := r58) (σ' := σ58) X (runV C G X q_X12_has k_1771 kp_33 k_1769 (rcX12 G X kd_399) (c_X12_has l E e58) rfl hl.1 rfl (Nat.le_of_ble_eq_true rfl) ⟨Nat.le_of_ble_eq_true rfl, Nat.le_of_ble_eq_true rfl⟩ ⟨Nat.le_of_ble_eq_true rfl, Nat.le_of_ble_eq_true rfl⟩ dX12_streetLine_58) (fun H locs X => ?_)
        refine lv_if_eq (tgt := 71) C.1 C.2.1 dX12_streetLine_61 (by decide) (fun c61 => ?_) (fun c61 => ?_)
        · replace h := ipos c61 h
          refine lv_aload_n C.1 C.2.1 dX12_streetLine_71 rfl (lv_at hl 1 rfl) ?_
          refine ldS C G (i := 153) (tx := "fog") (ti := 21) (by decide +kernel) dX12_streetLine_72 ?_
          obtain ⟨r74, σ74, e74, h⟩ := bnd2 h
          refine afI (r0 := r74) (σ' := σ74) X (runV C G X q_X12_has k_1771 kp_33 k_1769 (rcX12 G X kd_399) (c_X12_has l E e74) rfl hl.1 rfl (Nat.le_of_ble_eq_true rfl) ⟨Nat.le_of_ble_eq_true rfl, Nat.le_of_ble_eq_true rfl⟩ ⟨Nat.le_of_ble_eq_true rfl, Nat.le_of_ble_eq_true rfl⟩ dX12_streetLine_74) (fun H locs X => ?_)
          refine lv_if_eq (tgt := 92) C.1 C.2.1 dX12_streetLine_77 (by decide) (fun c77 => ?_) (fun c77 => ?_)
          · replace h := ipos c77 h
            refine lv_aload_n C.1 C.2.1 dX12_streetLine_92 rfl (lv_at hl 1 rfl) ?_
            refine ldS C G (i := 158) (tx := "hour") (ti := 13) (by decide +kernel) dX12_streetLine_93 ?_
            obtain ⟨r95, σ95, e95, h⟩ := bnd2 h
            refine afI (r0 := r95) (σ' := σ95) X (runV C G X q_X12_has k_1771 kp_33 k_1769 (rcX12 G X kd_399) (c_X12_has l E e95) rfl hl.1 rfl (Nat.le_of_ble_eq_true rfl) ⟨Nat.le_of_ble_eq_true rfl, Nat.le_of_ble_eq_true rfl⟩ ⟨Nat.le_of_ble_eq_true rfl, Nat.le_of_ble_eq_true rfl⟩ dX12_streetLine_95) (fun H locs X => ?_)
            refine lv_if_eq (tgt := 112) C.1 C.2.1 dX12_streetLine_98 (by decide) (fun c98 => ?_) (fun c98 => ?_)
            · replace h := ipos c98 h
              refine lv_aload_n C.1 C.2.1 dX12_streetLine_112 rfl (lv_at hl 1 rfl) ?_
              refine ldS C G (i := 160) (tx := "night") (ti := 22) (by decide +kernel) dX12_streetLine_113 ?_
              obtain ⟨r115, σ115, e115, h⟩ := bnd2 h
              refine afI (r0 := r115) (σ' := σ115) X (runV C G X q_X12_has k_1771 kp_33 k_1769 (rcX12 G X kd_399) (c_X12_has l E e115) rfl hl.1 rfl (Nat.le_of_ble_eq_true rfl) ⟨Nat.le_of_ble_eq_true rfl, Nat.le_of_ble_eq_true rfl⟩ ⟨Nat.le_of_ble_eq_true rfl, Nat.le_of_ble_eq_true rfl⟩ dX12_streetLine_115) (fun H locs X => ?_)
              refine lv_if_eq (tgt := 134) C.1 C.2.1 dX12_streetLine_118 (by decide) (fun c118 => ?_) (fun c118 => ?_)
              · replace h := ipos c118 h
                refine lv_aload_n C.1 C.2.1 dX12_streetLine_134 rfl (lv_at hl 1 rfl) ?_
                refine lv_aload_n C.1 C.2.1 dX12_streetLine_135 rfl (lv_at hl 1 rfl) ?_
                refine gfX12 C G X (k := 399) kd_399 11 (v := .int (σ115 399 11)) rfl rfl (by decide) k_1662 rfl dX12_streetLine_136 ?_
                obtain ⟨σ139, e139, h⟩ := bnd h
                refine afV X (runV C G X q_X12_wrong k_1762 kp_31 k_1760 (rcX12 G X kd_399) (c_X12_wrong l E e139) rfl hl.1 rfl (Nat.le_of_ble_eq_true rfl) ⟨Nat.le_of_ble_eq_true rfl, Nat.le_of_ble_eq_true rfl⟩ ⟨Nat.le_of_ble_eq_true rfl, Nat.le_of_ble_eq_true rfl⟩ dX12_streetLine_139) (fun H locs X => ?_)
                rw [← Option.some.inj h]
                exact rtV C X dX12_streetLine_142
              · replace h := ineg c118 h
                refine lv_aload_n C.1 C.2.1 dX12_streetLine_121 rfl (lv_at hl 1 rfl) ?_
                refine lv_bipush (v := 6) C.1 C.2.1 dX12_streetLine_122 (by decide) ?_
                refine lv_iconst (v := 0) C.1 C.2.1 dX12_streetLine_124 (by decide) ?_
                refine lv_sipush (v := 999) C.1 C.2.1 dX12_streetLine_125 (by decide) ?_
                obtain ⟨σ128, e128, h⟩ := bnd h
                refine afV X (runV C G X q_X12_tells k_1870 kp_52 k_1868 (rcX12 G X kd_399) (c_X12_tells l E e128) rfl hl.1 rfl (Nat.le_of_ble_eq_true rfl) ⟨Nat.le_of_ble_eq_true rfl, Nat.le_of_ble_eq_true rfl⟩ ⟨Nat.le_of_ble_eq_true rfl, Nat.le_of_ble_eq_true rfl⟩ dX12_streetLine_128) (fun H locs X => ?_)
                refine lv_goto (tgt := 142) C.1 C.2.1 dX12_streetLine_131 (by decide) ?_
                rw [← Option.some.inj h]
                exact rtV C X dX12_streetLine_142
            · replace h := ineg c98 h
              refine lv_aload_n C.1 C.2.1 dX12_streetLine_101 rfl (lv_at hl 1 rfl) ?_
              refine lv_iconst (v := 5) C.1 C.2.1 dX12_streetLine_102 (by decide) ?_
              refine lv_iconst (v := 0) C.1 C.2.1 dX12_streetLine_103 (by decide) ?_
              refine lv_bipush (v := 23) C.1 C.2.1 dX12_streetLine_104 (by decide) ?_
              obtain ⟨σ106, e106, h⟩ := bnd h
              refine afV X (runV C G X q_X12_tells k_1870 kp_52 k_1868 (rcX12 G X kd_399) (c_X12_tells l E e106) rfl hl.1 rfl (Nat.le_of_ble_eq_true rfl) ⟨Nat.le_of_ble_eq_true rfl, Nat.le_of_ble_eq_true rfl⟩ ⟨Nat.le_of_ble_eq_true rfl, Nat.le_of_ble_eq_true rfl⟩ dX12_streetLine_106) (fun H locs X => ?_)
              refine lv_goto (tgt := 142) C.1 C.2.1 dX12_streetLine_109 (by decide) ?_
              rw [← Option.some.inj h]
              exact rtV C X dX12_streetLine_142
          · replace h := ineg c77 h
            refine lv_aload_n C.1 C.2.1 dX12_streetLine_80 rfl (lv_at hl 1 rfl) ?_
            refine lv_bipush (v := 7) C.1 C.2.1 dX12_streetLine_81 (by decide) ?_
            refine lv_iconst (v := 0) C.1 C.2.1 dX12_streetLine_83 (by decide) ?_
            refine lv_bipush (v := 100) C.1 C.2.1 dX12_streetLine_84 (by decide) ?_
            obtain ⟨σ86, e86, h⟩ := bnd h
            refine afV X (runV C G X q_X12_tells k_1870 kp_52 k_1868 (rcX12 G X kd_399) (c_X12_tells l E e86) rfl hl.1 rfl (Nat.le_of_ble_eq_true rfl) ⟨Nat.le_of_ble_eq_true rfl, Nat.le_of_ble_eq_true rfl⟩ ⟨Nat.le_of_ble_eq_true rfl, Nat.le_of_ble_eq_true rfl⟩ dX12_streetLine_86) (fun H locs X => ?_)
            refine lv_goto (tgt := 142) C.1 C.2.1 dX12_streetLine_89 (by decide) ?_
            rw [← Option.some.inj h]
            exact rtV C X dX12_streetLine_142
        · replace h := ineg c61 h
          refine lv_aload_n C.1 C.2.1 dX12_streetLine_64 rfl (lv_at hl 1 rfl) ?_
          obtain ⟨σ65, e65, h⟩ := bnd h
          refine afV X (runV C G X q_X12_likesLine k_1865 kp_51 k_1863 (rcX12 G X kd_399) (c_X12_likesLine l E e65) rfl hl.1 rfl (Nat.le_of_ble_eq_true rfl) ⟨Nat.le_of_ble_eq_true rfl, Nat.le_of_ble_eq_true rfl⟩ ⟨Nat.le_of_ble_eq_true rfl, Nat.le_of_ble_eq_true rfl⟩ dX12_streetLine_65) (fun H locs X => ?_)
          refine lv_goto (tgt := 142) C.1 C.2.1 dX12_streetLine_68 (by decide) ?_
          rw [← Option.some.inj h]
          exact rtV C X dX12_streetLine_142
      · replace h := ineg c45 h
        refine lv_aload_n C.1 C.2.1 dX12_streetLine_48 rfl (lv_at hl 1 rfl) ?_
        obtain ⟨σ49, e49, h⟩ := bnd h
        refine afV X (runV C G X q_X12_wayLine k_1861 kp_50 k_1859 (rcX12 G X kd_399) (c_X12_wayLine l E e49) rfl hl.1 rfl (Nat.le_of_ble_eq_true rfl) ⟨Nat.le_of_ble_eq_true rfl, Nat.le_of_ble_eq_true rfl⟩ ⟨Nat.le_of_ble_eq_true rfl, Nat.le_of_ble_eq_true rfl⟩ dX12_streetLine_49) (fun H locs X => ?_)
        refine lv_goto (tgt := 142) C.1 C.2.1 dX12_streetLine_52 (by decide) ?_
        rw [← Option.some.inj h]
        exact rtV C X dX12_streetLine_142
    · replace h := ineg c28 h
      refine lv_aload_n C.1 C.2.1 dX12_streetLine_31 rfl (lv_at hl 1 rfl) ?_
      refine lv_iload_n C.1 C.2.1 dX12_streetLine_32 rfl (lv_at hl 0 rfl) ?_
      obtain ⟨σ33, e33, h⟩ := bnd h
      refine afV X (runV C G X q_X12_walkerLine k_1845 kp_47 k_1843 (rcX12 G X kd_399) (c_X12_walkerLine l E e33) rfl hl.1 rfl (Nat.le_of_ble_eq_true rfl) ⟨Nat.le_of_ble_eq_true rfl, Nat.le_of_ble_eq_true rfl⟩ ⟨Nat.le_of_ble_eq_true rfl, Nat.le_of_ble_eq_true rfl⟩ dX12_streetLine_33) (fun H locs X => ?_)
      refine lv_goto (tgt := 142) C.1 C.2.1 dX12_streetLine_36 (by decide) ?_
      rw [← Option.some.inj h]
      exact rtV C X dX12_streetLine_142
  · replace h := ineg c11 h
    refine lv_aload_n C.1 C.2.1 dX12_streetLine_14 rfl (lv_at hl 1 rfl) ?_
    refine lv_iload_n C.1 C.2.1 dX12_streetLine_15 rfl (lv_at hl 0 rfl) ?_
    obtain ⟨σ16, e16, h⟩ := bnd h
    refine afV X (runV C G X q_X12_paneLine k_1832 kp_44 k_1830 (rcX12 G X kd_399) (c_X12_paneLine l E e16) rfl hl.1 rfl (Nat.le_of_ble_eq_true rfl) ⟨Nat.le_of_ble_eq_true rfl, Nat.le_of_ble_eq_true rfl⟩ ⟨Nat.le_of_ble_eq_true rfl, Nat.le_of_ble_eq_true rfl⟩ dX12_streetLine_16) (fun H locs X => ?_)
    refine lv_goto (tgt := 142) C.1 C.2.1 dX12_streetLine_19 (by decide) ?_
    rw [← Option.some.inj h]
    exact rtV C X dX12_streetLine_142

theorem c_X12_streetLine (l : Launch) (E : GE) {σ : Mem} {r : Mem} (h : X12_streetLine σ = some r) : CtV l E yX12_streetLine cX12_streetLine 2 12 [.ref (gB E + 399)] σ r := by
  refine Met.ofW (cc := cX12_streetLine) (maxL := 2) (ret := none) (by decide) rfl ?_
  intro p e s m args below meth c s₁ B hml hv
  obtain ⟨rfl, G, X⟩ := start hv
  have C := cxof B hml
  have hl := lv_entry [.ref (gB E + 399)] (n := 2) (Nat.le_of_ble_eq_true rfl)
  rw [lg_entry_eq]
  generalize (lg_sl [.ref (gB E + 399)] ++ List.replicate (2 - (lg_sl [.ref (gB E + 399)]).length) Slot.unset).toArray = ls at hl ⊢
  exact w_X12_streetLine C G X hl h

set_option maxRecDepth 20000 in
theorem w_X12_begins {r : Mem} {σ : Mem} {ls : Array Slot} {H : Heap} {locs : List Loc} (C : Cx p s m args meth c cX12_begins none 1 RX12) (G : Gf E s) (X : Hx E σ s H locs) (hl : lv_has ls 1 [(0, .ref (gB E + 399))]) (h : X12_begins σ = some r) : W p l e (RM 1) s m args below meth c H locs 0 0 (QV E below args s r) (F0 m 0 ls []) := by
  rw [X12_begins] at h
  refine lv_aload_n C.1 C.2.1 dX12_begins_0 rfl (lv_at hl 0 rfl) ?_
  refine lv_iconst (v := -1) C.1 C.2.1 dX12_begins_1 (by decide) ?_
  obtain ⟨σ2, e2, h⟩ := bnd h
  refine pfX12 C G X (k := 399) kd_399 12 (x := (-1 : Int32)) (ty := .int) rfl rfl (Nat.le_of_ble_eq_true rfl) (by decide) k_1663 rfl rfl (by decide +kernel) rfl rfl dX12_begins_2 (fun H locs X => ?_)
  replace X := pu_x e2 X
  refine lv_aload_n C.1 C.2.1 dX12_begins_5 rfl (lv_at hl 0 rfl) ?_
  refine lv_iconst (v := -1) C.1 C.2.1 dX12_begins_6 (by decide) ?_
  obtain ⟨σ7, e7, h⟩ := bnd h
  refine pfX12 C G X (k := 399) kd_399 9 (x := (-1 : Int32)) (ty := .int) rfl rfl (Nat.le_of_ble_eq_true rfl) (by decide) k_1660 rfl rfl (by decide +kernel) rfl rfl dX12_begins_7 (fun H locs X => ?_)
  replace X := pu_x e7 X
  refine lv_aload_n C.1 C.2.1 dX12_begins_10 rfl (lv_at hl 0 rfl) ?_
  refine lv_aload_n C.1 C.2.1 dX12_begins_11 rfl (lv_at hl 0 rfl) ?_
  refine gfX12 C G X (k := 399) kd_399 8 (v := .int (σ7 399 8)) rfl rfl (by decide) k_1659 rfl dX12_begins_12 ?_
  obtain ⟨σ15, e15, h⟩ := bnd h
  refine pfX12 C G X (k := 399) kd_399 10 (x := (σ7 399 8)) (ty := .int) rfl rfl (Nat.le_of_ble_eq_true rfl) (by decide) k_1661 rfl rfl (by decide +kernel) rfl rfl dX12_begins_15 (fun H locs X => ?_)
  replace X := pu_x e15 X
  refine lv_aload_n C.1 C.2.1 dX12_begins_18 rfl (lv_at hl 0 rfl) ?_
  refine lv_iconst (v := 0) C.1 C.2.1 dX12_begins_19 (by decide) ?_
  obtain ⟨σ20, e20, h⟩ := bnd h
  refine pfX12 C G X (k := 399) kd_399 8 (x := (0 : Int32)) (ty := .int) rfl rfl (Nat.le_of_ble_eq_true rfl) (by decide) k_1659 rfl rfl (by decide +kernel) rfl rfl dX12_begins_20 (fun H locs X => ?_)
  replace X := pu_x e20 X
  refine lv_aload_n C.1 C.2.1 dX12_begins_23 rfl (lv_at hl 0 rfl) ?_
  refine lv_iconst (v := 0) C.1 C.2.1 dX12_begins_24 (by decide) ?_
  obtain ⟨σ25, e25, h⟩ := bnd h
  refine pfX12 C G X (k := 399) kd_399 11 (x := (0 : Int32)) (ty := .int) rfl rfl (Nat.le_of_ble_eq_true rfl) (by decide) k_1662 rfl rfl (by decide +kernel) rfl rfl dX12_begins_25 (fun H locs X => ?_)
  replace X := pu_x e25 X
  refine lv_aload_n C.1 C.2.1 dX12_begins_28 rfl (lv_at hl 0 rfl) ?_
  refine lv_iconst (v := 0) C.1 C.2.1 dX12_begins_29 (by decide) ?_
  obtain ⟨σ30, e30, h⟩ := bnd h
  refine pfX12 C G X (k := 399) kd_399 13 (x := (0 : Int32)) (ty := .int) rfl rfl (Nat.le_of_ble_eq_true rfl) (by decide) k_1664 rfl rfl (by decide +kernel) rfl rfl dX12_begins_30 (fun H locs X => ?_)
  replace X := pu_x e30 X
  rw [← Option.some.inj h]
  exact rtV C X dX12_begins_33

theorem c_X12_begins (l : Launch) (E : GE) {σ : Mem} {r : Mem} (h : X12_begins σ = some r) : CtV l E yX12_begins cX12_begins 1 1 [.ref (gB E + 399)] σ r := by
  refine Met.ofW (cc := cX12_begins) (maxL := 1) (ret := none) (by decide) rfl ?_
  intro p e s m args below meth c s₁ B hml hv
  obtain ⟨rfl, G, X⟩ := start hv
  have C := cxof B hml
  have hl := lv_entry [.ref (gB E + 399)] (n := 1) (Nat.le_of_ble_eq_true rfl)
  rw [lg_entry_eq]
  generalize (lg_sl [.ref (gB E + 399)] ++ List.replicate (1 - (lg_sl [.ref (gB E + 399)]).length) Slot.unset).toArray = ls at hl ⊢
  exact w_X12_begins C G X hl h

set_option maxRecDepth 20000 in
theorem w_X12_part_145 {r : (Int32 × Mem)} {σ : Mem} {y0 : Int32} {ls : Array Slot} {H : Heap} {locs : List Loc} (C : Cx p s m args meth c cX12_part (some .int) 2 RX12) (G : Gf E s) (X : Hx E σ s H locs) (hl : lv_has ls 2 [(0, .ref (gB E + 399))]) (h : X12_part_145 y0 σ = some r) : W p l e (RM 10) s m args below meth c H locs 0 0 (QI E below args s r.1 r.2) (F0 m 145 ls [.int y0]) := by
  rw [X12_part_145] at h
  refine lv_istore_n (lv' := [(1, .int y0), (0, .ref (gB E + 399))]) C.1 C.2.1 dX12_part_145 rfl hl (by decide) rfl (fun ls hl => ?_)
  refine lv_iload_n C.1 C.2.1 dX12_part_146 rfl (lv_at hl 0 rfl) ?_
  refine lv_iconst (v := -1) C.1 C.2.1 dX12_part_147 (by decide) ?_
  refine lv_icmp_ne (tgt := 161) C.1 C.2.1 dX12_part_148 (by decide) (fun c148 => ?_) (fun c148 => ?_)
  · replace h := ineg c148 h
    refine lv_aload_n C.1 C.2.1 dX12_part_161 rfl (lv_at hl 1 rfl) ?_
    refine gfX12 C G X (k := 399) kd_399 14 (v := .ref (gB E + 405)) rfl rfl (by decide) k_1665 rfl dX12_part_162 ?_
    refine lv_iload_n C.1 C.2.1 dX12_part_165 rfl (lv_at hl 0 rfl) ?_
    obtain ⟨r166, e166, h⟩ := bnd h
    refine ald C G X (k := 405) kd_405 (ag_s e166).1 dX12_part_166 ?_
    rw [(ag_s e166).2]
    rw [← Option.some.inj h]
    exact rtI C X dX12_part_167
  · replace h := ipos c148 h
    refine lv_aload_n C.1 C.2.1 dX12_part_151 rfl (lv_at hl 1 rfl) ?_
    refine lv_aload_n C.1 C.2.1 dX12_part_152 rfl (lv_at hl 1 rfl) ?_
    refine gfX12 C G X (k := 399) kd_399 11 (v := .int (σ 399 11)) rfl rfl (by decide) k_1662 rfl dX12_part_153 ?_
    obtain ⟨σ156, e156, h⟩ := bnd h
    refine afV X (runV C G X q_X12_wrong k_1762 kp_31 k_1760 (rcX12 G X kd_399) (c_X12_wrong l E e156) rfl hl.1 rfl (Nat.le_of_ble_eq_true rfl) ⟨Nat.le_of_ble_eq_true rfl, Nat.le_of_ble_eq_true rfl⟩ ⟨Nat.le_of_ble_eq_true rfl, Nat.le_of_ble_eq_true rfl⟩ dX12_part_156) (fun H locs X => ?_)
    refine lv_iconst (v := 0) C.1 C.2.1 dX12_part_159 (by decide) ?_
    rw [← Option.some.inj h]
    exact rtI C X dX12_part_160

set_option maxRecDepth 20000 in
theorem w_X12_part_52 {r : (Int32 × Mem)} {σ : Mem} {ls : Array Slot} {H : Heap} {locs : List Loc} (C : Cx p s m args meth c cX12_part (some .int) 2 RX12) (G : Gf E s) (X : Hx E σ s H locs) (hl : lv_has ls 2 [(0, .ref (gB E + 399))]) (h : X12_part_52 σ = some r) : W p l e (RM 10) s m args below meth c H locs 0 0 (QI E below args s r.1 r.2) (F0 m 52 ls []) := by
  rw [X12_part_52] at h
  refine lv_aload_n C.1 C.2.1 dX12_part_52 rfl (lv_at hl 0 rfl) ?_
  refine ldS C G (i := 138) (tx := "walker") (ti := 8) (by decide +kernel) dX12_part_53 ?_
  obtain ⟨r55, σ55, e55, h⟩ := bnd2 h
  refine afI (r0 := r55) (σ' := σ55) X (runV C G X q_X12_has k_1771 kp_33 k_1769 (rcX12 G X kd_399) (c_X12_has l E e55) rfl hl.1 rfl (Nat.le_of_ble_eq_true rfl) ⟨Nat.le_of_ble_eq_true rfl, Nat.le_of_ble_eq_true rfl⟩ ⟨Nat.le_of_ble_eq_true rfl, Nat.le_of_ble_eq_true rfl⟩ dX12_part_55) (fun H locs X => ?_)
  refine lv_if_eq (tgt := 65) C.1 C.2.1 dX12_part_58 (by decide) (fun c58 => ?_) (fun c58 => ?_)
  · replace h := ipos c58 h
    refine lv_aload_n C.1 C.2.1 dX12_part_65 rfl (lv_at hl 0 rfl) ?_
    refine ldS C G (i := 133) (tx := "pane") (ti := 7) (by decide +kernel) dX12_part_66 ?_
    obtain ⟨r68, σ68, e68, h⟩ := bnd2 h
    refine afI (r0 := r68) (σ' := σ68) X (runV C G X q_X12_has k_1771 kp_33 k_1769 (rcX12 G X kd_399) (c_X12_has l E e68) rfl hl.1 rfl (Nat.le_of_ble_eq_true rfl) ⟨Nat.le_of_ble_eq_true rfl, Nat.le_of_ble_eq_true rfl⟩ ⟨Nat.le_of_ble_eq_true rfl, Nat.le_of_ble_eq_true rfl⟩ dX12_part_68) (fun H locs X => ?_)
    refine lv_if_eq (tgt := 78) C.1 C.2.1 dX12_part_71 (by decide) (fun c71 => ?_) (fun c71 => ?_)
    · replace h := ipos c71 h
      refine lv_aload_n C.1 C.2.1 dX12_part_78 rfl (lv_at hl 0 rfl) ?_
      refine ldS C G (i := 108) (tx := "oil") (ti := 9) (by decide +kernel) dX12_part_79 ?_
      obtain ⟨r81, σ81, e81, h⟩ := bnd2 h
      refine afI (r0 := r81) (σ' := σ81) X (runV C G X q_X12_has k_1771 kp_33 k_1769 (rcX12 G X kd_399) (c_X12_has l E e81) rfl hl.1 rfl (Nat.le_of_ble_eq_true rfl) ⟨Nat.le_of_ble_eq_true rfl, Nat.le_of_ble_eq_true rfl⟩ ⟨Nat.le_of_ble_eq_true rfl, Nat.le_of_ble_eq_true rfl⟩ dX12_part_81) (fun H locs X => ?_)
      refine lv_if_eq (tgt := 91) C.1 C.2.1 dX12_part_84 (by decide) (fun c84 => ?_) (fun c84 => ?_)
      · replace h := ipos c84 h
        refine lv_aload_n C.1 C.2.1 dX12_part_91 rfl (lv_at hl 0 rfl) ?_
        refine ldS C G (i := 191) (tx := "dark") (ti := 10) (by decide +kernel) dX12_part_92 ?_
        obtain ⟨r94, σ94, e94, h⟩ := bnd2 h
        refine afI (r0 := r94) (σ' := σ94) X (runV C G X q_X12_has k_1771 kp_33 k_1769 (rcX12 G X kd_399) (c_X12_has l E e94) rfl hl.1 rfl (Nat.le_of_ble_eq_true rfl) ⟨Nat.le_of_ble_eq_true rfl, Nat.le_of_ble_eq_true rfl⟩ ⟨Nat.le_of_ble_eq_true rfl, Nat.le_of_ble_eq_true rfl⟩ dX12_part_94) (fun H locs X => ?_)
        refine lv_if_eq (tgt := 104) C.1 C.2.1 dX12_part_97 (by decide) (fun c97 => ?_) (fun c97 => ?_)
        · replace h := ipos c97 h
          refine lv_aload_n C.1 C.2.1 dX12_part_104 rfl (lv_at hl 0 rfl) ?_
          refine ldS C G (i := 124) (tx := "taper") (ti := 11) (by decide +kernel) dX12_part_105 ?_
          obtain ⟨r107, σ107, e107, h⟩ := bnd2 h
          refine afI (r0 := r107) (σ' := σ107) X (runV C G X q_X12_has k_1771 kp_33 k_1769 (rcX12 G X kd_399) (c_X12_has l E e107) rfl hl.1 rfl (Nat.le_of_ble_eq_true rfl) ⟨Nat.le_of_ble_eq_true rfl, Nat.le_of_ble_eq_true rfl⟩ ⟨Nat.le_of_ble_eq_true rfl, Nat.le_of_ble_eq_true rfl⟩ dX12_part_107) (fun H locs X => ?_)
          refine lv_if_eq (tgt := 117) C.1 C.2.1 dX12_part_110 (by decide) (fun c110 => ?_) (fun c110 => ?_)
          · replace h := ipos c110 h
            refine lv_aload_n C.1 C.2.1 dX12_part_117 rfl (lv_at hl 0 rfl) ?_
            refine ldS C G (i := 148) (tx := "likes") (ti := 12) (by decide +kernel) dX12_part_118 ?_
            obtain ⟨r120, σ120, e120, h⟩ := bnd2 h
            refine afI (r0 := r120) (σ' := σ120) X (runV C G X q_X12_has k_1771 kp_33 k_1769 (rcX12 G X kd_399) (c_X12_has l E e120) rfl hl.1 rfl (Nat.le_of_ble_eq_true rfl) ⟨Nat.le_of_ble_eq_true rfl, Nat.le_of_ble_eq_true rfl⟩ ⟨Nat.le_of_ble_eq_true rfl, Nat.le_of_ble_eq_true rfl⟩ dX12_part_120) (fun H locs X => ?_)
            refine lv_if_eq (tgt := 130) C.1 C.2.1 dX12_part_123 (by decide) (fun c123 => ?_) (fun c123 => ?_)
            · replace h := ipos c123 h
              refine lv_aload_n C.1 C.2.1 dX12_part_130 rfl (lv_at hl 0 rfl) ?_
              refine ldS C G (i := 158) (tx := "hour") (ti := 13) (by decide +kernel) dX12_part_131 ?_
              obtain ⟨r133, σ133, e133, h⟩ := bnd2 h
              refine afI (r0 := r133) (σ' := σ133) X (runV C G X q_X12_has k_1771 kp_33 k_1769 (rcX12 G X kd_399) (c_X12_has l E e133) rfl hl.1 rfl (Nat.le_of_ble_eq_true rfl) ⟨Nat.le_of_ble_eq_true rfl, Nat.le_of_ble_eq_true rfl⟩ ⟨Nat.le_of_ble_eq_true rfl, Nat.le_of_ble_eq_true rfl⟩ dX12_part_133) (fun H locs X => ?_)
              refine lv_if_eq (tgt := 144) C.1 C.2.1 dX12_part_136 (by decide) (fun c136 => ?_) (fun c136 => ?_)
              · replace h := ipos c136 h
                refine lv_iconst (v := -1) C.1 C.2.1 dX12_part_144 (by decide) ?_
                exact w_X12_part_145 C G X (lv_sub hl [0] rfl) h
              · replace h := ineg c136 h
                refine lv_bipush (v := 6) C.1 C.2.1 dX12_part_139 (by decide) ?_
                refine lv_goto (tgt := 145) C.1 C.2.1 dX12_part_141 (by decide) ?_
                exact w_X12_part_145 C G X (lv_sub hl [0] rfl) h
            · replace h := ineg c123 h
              refine lv_iconst (v := 5) C.1 C.2.1 dX12_part_126 (by decide) ?_
              refine lv_goto (tgt := 145) C.1 C.2.1 dX12_part_127 (by decide) ?_
              exact w_X12_part_145 C G X (lv_sub hl [0] rfl) h
          · replace h := ineg c110 h
            refine lv_iconst (v := 4) C.1 C.2.1 dX12_part_113 (by decide) ?_
            refine lv_goto (tgt := 145) C.1 C.2.1 dX12_part_114 (by decide) ?_
            exact w_X12_part_145 C G X (lv_sub hl [0] rfl) h
        · replace h := ineg c97 h
          refine lv_iconst (v := 3) C.1 C.2.1 dX12_part_100 (by decide) ?_
          refine lv_goto (tgt := 145) C.1 C.2.1 dX12_part_101 (by decide) ?_
          exact w_X12_part_145 C G X (lv_sub hl [0] rfl) h
      · replace h := ineg c84 h
        refine lv_iconst (v := 2) C.1 C.2.1 dX12_part_87 (by decide) ?_
        refine lv_goto (tgt := 145) C.1 C.2.1 dX12_part_88 (by decide) ?_
        exact w_X12_part_145 C G X (lv_sub hl [0] rfl) h
    · replace h := ineg c71 h
      refine lv_iconst (v := 1) C.1 C.2.1 dX12_part_74 (by decide) ?_
      refine lv_goto (tgt := 145) C.1 C.2.1 dX12_part_75 (by decide) ?_
      exact w_X12_part_145 C G X (lv_sub hl [0] rfl) h
  · replace h := ineg c58 h
    refine lv_iconst (v := 0) C.1 C.2.1 dX12_part_61 (by decide) ?_
    refine lv_goto (tgt := 145) C.1 C.2.1 dX12_part_62 (by decide) ?_
    exact w_X12_part_145 C G X (lv_sub hl [0] rfl) h

set_option maxRecDepth 20000 in
theorem w_X12_part {r : (Int32 × Mem)} {σ : Mem} {ls : Array Slot} {H : Heap} {locs : List Loc} (C : Cx p s m args meth c cX12_part (some .int) 2 RX12) (G : Gf E s) (X : Hx E σ s H locs) (hl : lv_has ls 2 [(0, .ref (gB E + 399))]) (h : X12_part σ = some r) : W p l e (RM 10) s m args below meth c H locs 0 0 (QI E below args s r.1 r.2) (F0 m 0 ls []) := by
  rw [X12_part] at h
  refine lv_aload_n C.1 C.2.1 dX12_part_0 rfl (lv_at hl 0 rfl) ?_
  refine gfX12 C G X (k := 399) kd_399 12 (v := .int (σ 399 12)) rfl rfl (by decide) k_1663 rfl dX12_part_1 ?_
  refine lv_iconst (v := -1) C.1 C.2.1 dX12_part_4 (by decide) ?_
  refine lv_icmp_eq (tgt := 10) C.1 C.2.1 dX12_part_5 (by decide) (fun c5 => ?_) (fun c5 => ?_)
  · replace h := ipos c5 h
    refine lv_aload_n C.1 C.2.1 dX12_part_10 rfl (lv_at hl 0 rfl) ?_
    obtain ⟨σ11, e11, h⟩ := bnd h
    refine afV X (runV C G X q_X12_skip k_1754 kp_29 k_1752 (rcX12 G X kd_399) (c_X12_skip l E e11) rfl hl.1 rfl (Nat.le_of_ble_eq_true rfl) ⟨Nat.le_of_ble_eq_true rfl, Nat.le_of_ble_eq_true rfl⟩ ⟨Nat.le_of_ble_eq_true rfl, Nat.le_of_ble_eq_true rfl⟩ dX12_part_11) (fun H locs X => ?_)
    refine lv_aload_n C.1 C.2.1 dX12_part_14 rfl (lv_at hl 0 rfl) ?_
    refine gfX12 C G X (k := 399) kd_399 11 (v := .int (σ11 399 11)) rfl rfl (by decide) k_1662 rfl dX12_part_15 ?_
    refine lv_aload_n C.1 C.2.1 dX12_part_18 rfl (lv_at hl 0 rfl) ?_
    refine gfX12 C G X (k := 399) kd_399 10 (v := .int (σ11 399 10)) rfl rfl (by decide) k_1661 rfl dX12_part_19 ?_
    refine lv_icmp_ge (tgt := 52) C.1 C.2.1 dX12_part_22 (by decide) (fun c22 => ?_) (fun c22 => ?_)
    · replace h := ipos c22 h
      exact w_X12_part_52 C G X (lv_sub hl [0] rfl) h
    · replace h := ineg c22 h
      refine lv_aload_n C.1 C.2.1 dX12_part_25 rfl (lv_at hl 0 rfl) ?_
      refine lv_aload_n C.1 C.2.1 dX12_part_26 rfl (lv_at hl 0 rfl) ?_
      refine gfX12 C G X (k := 399) kd_399 11 (v := .int (σ11 399 11)) rfl rfl (by decide) k_1662 rfl dX12_part_27 ?_
      obtain ⟨r30, e30, h⟩ := bnd h
      refine afI X (runV C G X q_X12_letter k_1758 kp_30 k_1756 (rcX12 G X kd_399) (c_X12_letter l E e30) rfl hl.1 rfl (Nat.le_of_ble_eq_true rfl) ⟨Nat.le_of_ble_eq_true rfl, Nat.le_of_ble_eq_true rfl⟩ ⟨Nat.le_of_ble_eq_true rfl, Nat.le_of_ble_eq_true rfl⟩ dX12_part_30) (fun H locs X => ?_)
      refine lv_bipush (v := 48) C.1 C.2.1 dX12_part_33 (by decide) ?_
      refine lv_bipush (v := 57) C.1 C.2.1 dX12_part_35 (by decide) ?_
      obtain ⟨r37, e37, h⟩ := bnd h
      refine afI X (runS C G X q_X12_isIn k_1734 k_1733 (c_X12_isIn l E e37) rfl hl.1 rfl (Nat.le_of_ble_eq_true rfl) ⟨Nat.le_of_ble_eq_true rfl, Nat.le_of_ble_eq_true rfl⟩ ⟨Nat.le_of_ble_eq_true rfl, Nat.le_of_ble_eq_true rfl⟩ dX12_part_37) (fun H locs X => ?_)
      refine lv_if_eq (tgt := 52) C.1 C.2.1 dX12_part_40 (by decide) (fun c40 => ?_) (fun c40 => ?_)
      · replace h := ipos c40 h
        exact w_X12_part_52 C G X (lv_sub hl [0] rfl) h
      · replace h := ineg c40 h
        refine lv_aload_n C.1 C.2.1 dX12_part_43 rfl (lv_at hl 0 rfl) ?_
        refine lv_iconst (v := 0) C.1 C.2.1 dX12_part_44 (by decide) ?_
        refine lv_sipush (v := 999) C.1 C.2.1 dX12_part_45 (by decide) ?_
        obtain ⟨r48, σ48, e48, h⟩ := bnd2 h
        refine afI (r0 := r48) (σ' := σ48) X (runV C G X q_X12_figures k_1779 kp_34 k_1777 (rcX12 G X kd_399) (c_X12_figures l E e48) rfl hl.1 rfl (Nat.le_of_ble_eq_true rfl) ⟨Nat.le_of_ble_eq_true rfl, Nat.le_of_ble_eq_true rfl⟩ ⟨Nat.le_of_ble_eq_true rfl, Nat.le_of_ble_eq_true rfl⟩ dX12_part_48) (fun H locs X => ?_)
        rw [← Option.some.inj h]
        exact rtI C X dX12_part_51
  · replace h := ineg c5 h
    refine lv_iconst (v := 0) C.1 C.2.1 dX12_part_8 (by decide) ?_
    rw [← Option.some.inj h]
    exact rtI C X dX12_part_9

theorem c_X12_part (l : Launch) (E : GE) {σ : Mem} {r : (Int32 × Mem)} (h : X12_part σ = some r) : CtI l E yX12_part cX12_part 2 .int 10 [.ref (gB E + 399)] σ r.1 r.2 := by
  refine Met.ofW (cc := cX12_part) (maxL := 2) (ret := (some .int)) (by decide) rfl ?_
  intro p e s m args below meth c s₁ B hml hv
  obtain ⟨rfl, G, X⟩ := start hv
  have C := cxof B hml
  have hl := lv_entry [.ref (gB E + 399)] (n := 2) (Nat.le_of_ble_eq_true rfl)
  rw [lg_entry_eq]
  generalize (lg_sl [.ref (gB E + 399)] ++ List.replicate (2 - (lg_sl [.ref (gB E + 399)]).length) Slot.unset).toArray = ls at hl ⊢
  exact w_X12_part C G X hl h

set_option maxRecDepth 20000 in
theorem w_X12_sum_5 {r : (Int32 × Mem)} (C : Cx p s m args meth c cX12_sum (some .int) 2 RX12) (G : Gf E s) : ∀ (f : Nat) {x1 : Int32} {σ : Mem} {ls : Array Slot} {H : Heap} {locs : List Loc}, Hx E σ s H locs → lv_has ls 2 [(0, .ref (gB E + 399)), (1, .int x1)] → X12_sum_5 f x1 σ = some r → W p l e (RM 11) s m args below meth c H locs 0 0 (QI E below args s r.1 r.2) (F0 m 5 ls []) := by
  intro f
  induction f with
  | zero =>
    intro x1 σ ls H locs X hl h
    rw [X12_sum_5] at h
    cases h
  | succ f ih =>
    intro x1 σ ls H locs X hl h
    rw [X12_sum_5] at h
    refine lv_aload_n C.1 C.2.1 dX12_sum_5 rfl (lv_at hl 0 rfl) ?_
    refine gfX12 C G X (k := 399) kd_399 12 (v := .int (σ 399 12)) rfl rfl (by decide) k_1663 rfl dX12_sum_6 ?_
    refine lv_iconst (v := -1) C.1 C.2.1 dX12_sum_9 (by decide) ?_
    refine lv_icmp_ne (tgt := 42) C.1 C.2.1 dX12_sum_10 (by decide) (fun c10 => ?_) (fun c10 => ?_)
    · replace h := ineg c10 h
      refine lv_iload_n C.1 C.2.1 dX12_sum_42 rfl (lv_at hl 1 rfl) ?_
      rw [← Option.some.inj h]
      exact rtI C X dX12_sum_43
    · replace h := ipos c10 h
      refine lv_aload_n C.1 C.2.1 dX12_sum_13 rfl (lv_at hl 0 rfl) ?_
      refine lv_bipush (v := 43) C.1 C.2.1 dX12_sum_14 (by decide) ?_
      obtain ⟨r16, σ16, e16, h⟩ := bnd2 h
      refine afI (r0 := r16) (σ' := σ16) X (runV C G X q_X12_isSign k_1801 kp_39 k_1799 (rcX12 G X kd_399) (c_X12_isSign l E e16) rfl hl.1 rfl (Nat.le_of_ble_eq_true rfl) ⟨Nat.le_of_ble_eq_true rfl, Nat.le_of_ble_eq_true rfl⟩ ⟨Nat.le_of_ble_eq_true rfl, Nat.le_of_ble_eq_true rfl⟩ dX12_sum_16) (fun H locs X => ?_)
      refine lv_if_eq (tgt := 42) C.1 C.2.1 dX12_sum_19 (by decide) (fun c19 => ?_) (fun c19 => ?_)
      · replace h := ipos c19 h
        refine lv_iload_n C.1 C.2.1 dX12_sum_42 rfl (lv_at hl 1 rfl) ?_
        rw [← Option.some.inj h]
        exact rtI C X dX12_sum_43
      · replace h := ineg c19 h
        refine lv_aload_n C.1 C.2.1 dX12_sum_22 rfl (lv_at hl 0 rfl) ?_
        refine lv_dup C.1 C.2.1 dX12_sum_23 rfl ?_
        refine gfX12 C G X (k := 399) kd_399 11 (v := .int (σ16 399 11)) rfl rfl (by decide) k_1662 rfl dX12_sum_24 ?_
        refine lv_iconst (v := 1) C.1 C.2.1 dX12_sum_27 (by decide) ?_
        refine lv_iadd C.1 C.2.1 dX12_sum_28 ?_
        obtain ⟨σ29, e29, h⟩ := bnd h
        refine pfX12 C G X (k := 399) kd_399 11 (x := ((σ16 399 11) + (1 : Int32))) (ty := .int) rfl rfl (Nat.le_of_ble_eq_true rfl) (by decide) k_1662 rfl rfl (by decide +kernel) rfl rfl dX12_sum_29 (fun H locs X => ?_)
        replace X := pu_x e29 X
        refine lv_iload_n C.1 C.2.1 dX12_sum_32 rfl (lv_at hl 1 rfl) ?_
        refine lv_aload_n C.1 C.2.1 dX12_sum_33 rfl (lv_at hl 0 rfl) ?_
        obtain ⟨r34, σ34, e34, h⟩ := bnd2 h
        refine afI (r0 := r34) (σ' := σ34) X (runV C G X q_X12_part k_1815 kp_42 k_1813 (rcX12 G X kd_399) (c_X12_part l E e34) rfl hl.1 rfl (Nat.le_of_ble_eq_true rfl) ⟨Nat.le_of_ble_eq_true rfl, Nat.le_of_ble_eq_true rfl⟩ ⟨Nat.le_of_ble_eq_true rfl, Nat.le_of_ble_eq_true rfl⟩ dX12_sum_34) (fun H locs X => ?_)
        refine lv_iadd C.1 C.2.1 dX12_sum_37 ?_
        refine lv_istore_n (lv' := [(1, .int (x1 + r34)), (0, .ref (gB E + 399))]) C.1 C.2.1 dX12_sum_38 rfl hl (by decide) rfl (fun ls hl => ?_)
        refine lv_goto (tgt := 5) C.1 C.2.1 dX12_sum_39 (by decide) ?_
        exact ih X (lv_sub hl [1, 0] rfl) h

set_option maxRecDepth 20000 in
theorem w_X12_sum {r : (Int32 × Mem)} {σ : Mem} {ls : Array Slot} {H : Heap} {locs : List Loc} (C : Cx p s m args meth c cX12_sum (some .int) 2 RX12) (G : Gf E s) (X : Hx E σ s H locs) (hl : lv_has ls 2 [(0, .ref (gB E + 399))]) (h : X12_sum σ = some r) : W p l e (RM 11) s m args below meth c H locs 0 0 (QI E below args s r.1 r.2) (F0 m 0 ls []) := by
  rw [X12_sum] at h
  refine lv_aload_n C.1 C.2.1 dX12_sum_0 rfl (lv_at hl 0 rfl) ?_
  obtain ⟨r1, σ1, e1, h⟩ := bnd2 h
  refine afI (r0 := r1) (σ' := σ1) X (runV C G X q_X12_part k_1815 kp_42 k_1813 (rcX12 G X kd_399) (c_X12_part l E e1) rfl hl.1 rfl (Nat.le_of_ble_eq_true rfl) ⟨Nat.le_of_ble_eq_true rfl, Nat.le_of_ble_eq_true rfl⟩ ⟨Nat.le_of_ble_eq_true rfl, Nat.le_of_ble_eq_true rfl⟩ dX12_sum_1) (fun H locs X => ?_)
  refine lv_istore_n (lv' := [(1, .int r1), (0, .ref (gB E + 399))]) C.1 C.2.1 dX12_sum_4 rfl hl (by decide) rfl (fun ls hl => ?_)
  exact w_X12_sum_5 C G FU X (lv_sub hl [1, 0] rfl) h

theorem c_X12_sum (l : Launch) (E : GE) {σ : Mem} {r : (Int32 × Mem)} (h : X12_sum σ = some r) : CtI l E yX12_sum cX12_sum 2 .int 11 [.ref (gB E + 399)] σ r.1 r.2 := by
  refine Met.ofW (cc := cX12_sum) (maxL := 2) (ret := (some .int)) (by decide) rfl ?_
  intro p e s m args below meth c s₁ B hml hv
  obtain ⟨rfl, G, X⟩ := start hv
  have C := cxof B hml
  have hl := lv_entry [.ref (gB E + 399)] (n := 2) (Nat.le_of_ble_eq_true rfl)
  rw [lg_entry_eq]
  generalize (lg_sl [.ref (gB E + 399)] ++ List.replicate (2 - (lg_sl [.ref (gB E + 399)]).length) Slot.unset).toArray = ls at hl ⊢
  exact w_X12_sum C G X hl h

set_option maxRecDepth 20000 in
theorem w_X12_plain_85 {r : (Int32 × Mem)} {σ : Mem} {x1 : Int32} {x2 : Int32} {ls : Array Slot} {H : Heap} {locs : List Loc} (C : Cx p s m args meth c cX12_plain (some .boolean) 4 RX12) (G : Gf E s) (X : Hx E σ s H locs) (hl : lv_has ls 4 [(0, .ref (gB E + 399)), (1, .int x1), (2, .int x2)]) (h : X12_plain_85 x1 x2 σ = some r) : W p l e (RM 12) s m args below meth c H locs 0 0 (QI E below args s r.1 r.2) (F0 m 85 ls []) := by
  rw [X12_plain_85] at h
  refine lv_aload_n C.1 C.2.1 dX12_plain_85 rfl (lv_at hl 0 rfl) ?_
  refine lv_dup C.1 C.2.1 dX12_plain_86 rfl ?_
  refine gfX12 C G X (k := 399) kd_399 11 (v := .int (σ 399 11)) rfl rfl (by decide) k_1662 rfl dX12_plain_87 ?_
  refine lv_iconst (v := 1) C.1 C.2.1 dX12_plain_90 (by decide) ?_
  refine lv_iadd C.1 C.2.1 dX12_plain_91 ?_
  obtain ⟨σ92, e92, h⟩ := bnd h
  refine pfX12 C G X (k := 399) kd_399 11 (x := ((σ 399 11) + (1 : Int32))) (ty := .int) rfl rfl (Nat.le_of_ble_eq_true rfl) (by decide) k_1662 rfl rfl (by decide +kernel) rfl rfl dX12_plain_92 (fun H locs X => ?_)
  replace X := pu_x e92 X
  refine lv_aload_n C.1 C.2.1 dX12_plain_95 rfl (lv_at hl 0 rfl) ?_
  obtain ⟨r96, σ96, e96, h⟩ := bnd2 h
  refine afI (r0 := r96) (σ' := σ96) X (runV C G X q_X12_sum k_1811 kp_41 k_1809 (rcX12 G X kd_399) (c_X12_sum l E e96) rfl hl.1 rfl (Nat.le_of_ble_eq_true rfl) ⟨Nat.le_of_ble_eq_true rfl, Nat.le_of_ble_eq_true rfl⟩ ⟨Nat.le_of_ble_eq_true rfl, Nat.le_of_ble_eq_true rfl⟩ dX12_plain_96) (fun H locs X => ?_)
  refine lv_istore_n (lv' := [(3, .int r96), (0, .ref (gB E + 399)), (1, .int x1), (2, .int x2)]) C.1 C.2.1 dX12_plain_99 rfl hl (by decide) rfl (fun ls hl => ?_)
  refine lv_iload_n C.1 C.2.1 dX12_plain_100 rfl (lv_at hl 3 rfl) ?_
  refine lv_if_eq (tgt := 117) C.1 C.2.1 dX12_plain_101 (by decide) (fun c101 => ?_) (fun c101 => ?_)
  · replace h := ipos c101 h
    refine lv_iload_n C.1 C.2.1 dX12_plain_117 rfl (lv_at hl 2 rfl) ?_
    refine lv_iload_n C.1 C.2.1 dX12_plain_118 rfl (lv_at hl 0 rfl) ?_
    refine lv_icmp_le (tgt := 126) C.1 C.2.1 dX12_plain_119 (by decide) (fun c119 => ?_) (fun c119 => ?_)
    · replace h := ipos c119 h
      refine lv_iconst (v := 0) C.1 C.2.1 dX12_plain_126 (by decide) ?_
      obtain ⟨u127, z127, h⟩ := bnd h
      rw [← Option.some.inj h]
      exact rtZ C X (gb_s z127) dX12_plain_127
    · replace h := ineg c119 h
      refine lv_iconst (v := 1) C.1 C.2.1 dX12_plain_122 (by decide) ?_
      refine lv_goto (tgt := 127) C.1 C.2.1 dX12_plain_123 (by decide) ?_
      obtain ⟨u127, z127, h⟩ := bnd h
      rw [← Option.some.inj h]
      exact rtZ C X (gb_s z127) dX12_plain_127
  · replace h := ineg c101 h
    refine lv_iload_n C.1 C.2.1 dX12_plain_104 rfl (lv_at hl 2 rfl) ?_
    refine lv_iload_n C.1 C.2.1 dX12_plain_105 rfl (lv_at hl 0 rfl) ?_
    refine lv_icmp_ge (tgt := 113) C.1 C.2.1 dX12_plain_106 (by decide) (fun c106 => ?_) (fun c106 => ?_)
    · replace h := ipos c106 h
      refine lv_iconst (v := 0) C.1 C.2.1 dX12_plain_113 (by decide) ?_
      refine lv_goto (tgt := 127) C.1 C.2.1 dX12_plain_114 (by decide) ?_
      obtain ⟨u127, z127, h⟩ := bnd h
      rw [← Option.some.inj h]
      exact rtZ C X (gb_s z127) dX12_plain_127
    · replace h := ineg c106 h
      refine lv_iconst (v := 1) C.1 C.2.1 dX12_plain_109 (by decide) ?_
      refine lv_goto (tgt := 127) C.1 C.2.1 dX12_plain_110 (by decide) ?_
      obtain ⟨u127, z127, h⟩ := bnd h
      rw [← Option.some.inj h]
      exact rtZ C X (gb_s z127) dX12_plain_127

set_option maxRecDepth 20000 in
theorem w_X12_plain {r : (Int32 × Mem)} {σ : Mem} {ls : Array Slot} {H : Heap} {locs : List Loc} (C : Cx p s m args meth c cX12_plain (some .boolean) 4 RX12) (G : Gf E s) (X : Hx E σ s H locs) (hl : lv_has ls 4 [(0, .ref (gB E + 399))]) (h : X12_plain σ = some r) : W p l e (RM 12) s m args below meth c H locs 0 0 (QI E below args s r.1 r.2) (F0 m 0 ls []) := by
  rw [X12_plain] at h
  refine lv_aload_n C.1 C.2.1 dX12_plain_0 rfl (lv_at hl 0 rfl) ?_
  refine ldS C G (i := 196) (tx := "owned") (ti := 14) (by decide +kernel) dX12_plain_1 ?_
  obtain ⟨r3, σ3, e3, h⟩ := bnd2 h
  refine afI (r0 := r3) (σ' := σ3) X (runV C G X q_X12_has k_1771 kp_33 k_1769 (rcX12 G X kd_399) (c_X12_has l E e3) rfl hl.1 rfl (Nat.le_of_ble_eq_true rfl) ⟨Nat.le_of_ble_eq_true rfl, Nat.le_of_ble_eq_true rfl⟩ ⟨Nat.le_of_ble_eq_true rfl, Nat.le_of_ble_eq_true rfl⟩ dX12_plain_3) (fun H locs X => ?_)
  refine lv_if_eq (tgt := 14) C.1 C.2.1 dX12_plain_6 (by decide) (fun c6 => ?_) (fun c6 => ?_)
  · replace h := ipos c6 h
    refine lv_aload_n C.1 C.2.1 dX12_plain_14 rfl (lv_at hl 0 rfl) ?_
    refine ldS C G (i := 202) (tx := "misty") (ti := 15) (by decide +kernel) dX12_plain_15 ?_
    obtain ⟨r17, σ17, e17, h⟩ := bnd2 h
    refine afI (r0 := r17) (σ' := σ17) X (runV C G X q_X12_has k_1771 kp_33 k_1769 (rcX12 G X kd_399) (c_X12_has l E e17) rfl hl.1 rfl (Nat.le_of_ble_eq_true rfl) ⟨Nat.le_of_ble_eq_true rfl, Nat.le_of_ble_eq_true rfl⟩ ⟨Nat.le_of_ble_eq_true rfl, Nat.le_of_ble_eq_true rfl⟩ dX12_plain_17) (fun H locs X => ?_)
    refine lv_if_eq (tgt := 40) C.1 C.2.1 dX12_plain_20 (by decide) (fun c20 => ?_) (fun c20 => ?_)
    · replace h := ipos c20 h
      refine lv_aload_n C.1 C.2.1 dX12_plain_40 rfl (lv_at hl 0 rfl) ?_
      obtain ⟨r41, σ41, e41, h⟩ := bnd2 h
      refine afI (r0 := r41) (σ' := σ41) X (runV C G X q_X12_sum k_1811 kp_41 k_1809 (rcX12 G X kd_399) (c_X12_sum l E e41) rfl hl.1 rfl (Nat.le_of_ble_eq_true rfl) ⟨Nat.le_of_ble_eq_true rfl, Nat.le_of_ble_eq_true rfl⟩ ⟨Nat.le_of_ble_eq_true rfl, Nat.le_of_ble_eq_true rfl⟩ dX12_plain_41) (fun H locs X => ?_)
      refine lv_istore_n (lv' := [(1, .int r41), (0, .ref (gB E + 399))]) C.1 C.2.1 dX12_plain_44 rfl hl (by decide) rfl (fun ls hl => ?_)
      refine lv_aload_n C.1 C.2.1 dX12_plain_45 rfl (lv_at hl 1 rfl) ?_
      refine gfX12 C G X (k := 399) kd_399 12 (v := .int (σ41 399 12)) rfl rfl (by decide) k_1663 rfl dX12_plain_46 ?_
      refine lv_iconst (v := -1) C.1 C.2.1 dX12_plain_49 (by decide) ?_
      refine lv_icmp_eq (tgt := 55) C.1 C.2.1 dX12_plain_50 (by decide) (fun c50 => ?_) (fun c50 => ?_)
      · replace h := ipos c50 h
        refine lv_aload_n C.1 C.2.1 dX12_plain_55 rfl (lv_at hl 1 rfl) ?_
        refine lv_bipush (v := 60) C.1 C.2.1 dX12_plain_56 (by decide) ?_
        obtain ⟨r58, σ58, e58, h⟩ := bnd2 h
        refine afI (r0 := r58) (σ' := σ58) X (runV C G X q_X12_isSign k_1801 kp_39 k_1799 (rcX12 G X kd_399) (c_X12_isSign l E e58) rfl hl.1 rfl (Nat.le_of_ble_eq_true rfl) ⟨Nat.le_of_ble_eq_true rfl, Nat.le_of_ble_eq_true rfl⟩ ⟨Nat.le_of_ble_eq_true rfl, Nat.le_of_ble_eq_true rfl⟩ dX12_plain_58) (fun H locs X => ?_)
        refine lv_istore_n (lv' := [(2, .int r58), (1, .int r41), (0, .ref (gB E + 399))]) C.1 C.2.1 dX12_plain_61 rfl hl (by decide) rfl (fun ls hl => ?_)
        refine lv_iload_n C.1 C.2.1 dX12_plain_62 rfl (lv_at hl 0 rfl) ?_
        refine lv_if_ne (tgt := 85) C.1 C.2.1 dX12_plain_63 (by decide) (fun c63 => ?_) (fun c63 => ?_)
        · replace h := ineg c63 h
          exact w_X12_plain_85 C G X (lv_sub hl [2, 1, 0] rfl) h
        · replace h := ipos c63 h
          refine lv_aload_n C.1 C.2.1 dX12_plain_66 rfl (lv_at hl 2 rfl) ?_
          refine lv_bipush (v := 62) C.1 C.2.1 dX12_plain_67 (by decide) ?_
          obtain ⟨r69, σ69, e69, h⟩ := bnd2 h
          refine afI (r0 := r69) (σ' := σ69) X (runV C G X q_X12_isSign k_1801 kp_39 k_1799 (rcX12 G X kd_399) (c_X12_isSign l E e69) rfl hl.1 rfl (Nat.le_of_ble_eq_true rfl) ⟨Nat.le_of_ble_eq_true rfl, Nat.le_of_ble_eq_true rfl⟩ ⟨Nat.le_of_ble_eq_true rfl, Nat.le_of_ble_eq_true rfl⟩ dX12_plain_69) (fun H locs X => ?_)
          refine lv_if_ne (tgt := 85) C.1 C.2.1 dX12_plain_72 (by decide) (fun c72 => ?_) (fun c72 => ?_)
          · replace h := ineg c72 h
            exact w_X12_plain_85 C G X (lv_sub hl [2, 1, 0] rfl) h
          · replace h := ipos c72 h
            refine lv_aload_n C.1 C.2.1 dX12_plain_75 rfl (lv_at hl 2 rfl) ?_
            refine lv_aload_n C.1 C.2.1 dX12_plain_76 rfl (lv_at hl 2 rfl) ?_
            refine gfX12 C G X (k := 399) kd_399 11 (v := .int (σ69 399 11)) rfl rfl (by decide) k_1662 rfl dX12_plain_77 ?_
            obtain ⟨σ80, e80, h⟩ := bnd h
            refine afV X (runV C G X q_X12_wrong k_1762 kp_31 k_1760 (rcX12 G X kd_399) (c_X12_wrong l E e80) rfl hl.1 rfl (Nat.le_of_ble_eq_true rfl) ⟨Nat.le_of_ble_eq_true rfl, Nat.le_of_ble_eq_true rfl⟩ ⟨Nat.le_of_ble_eq_true rfl, Nat.le_of_ble_eq_true rfl⟩ dX12_plain_80) (fun H locs X => ?_)
            refine lv_iconst (v := 0) C.1 C.2.1 dX12_plain_83 (by decide) ?_
            obtain ⟨u84, z84, h⟩ := bnd h
            rw [← Option.some.inj h]
            exact rtZ C X (gb_s z84) dX12_plain_84
      · replace h := ineg c50 h
        refine lv_iconst (v := 0) C.1 C.2.1 dX12_plain_53 (by decide) ?_
        obtain ⟨u54, z54, h⟩ := bnd h
        rw [← Option.some.inj h]
        exact rtZ C X (gb_s z54) dX12_plain_54
    · replace h := ineg c20 h
      refine lv_aload_n C.1 C.2.1 dX12_plain_23 rfl (lv_at hl 0 rfl) ?_
      refine gfX12 C G X (k := 399) kd_399 1 (v := .ref (gB E + 400)) rfl rfl (by decide) k_1652 rfl dX12_plain_24 ?_
      refine lv_bipush (v := 8) C.1 C.2.1 dX12_plain_27 (by decide) ?_
      obtain ⟨r29, e29, h⟩ := bnd h
      refine ald C G X (k := 400) kd_400 (ag_s e29).1 dX12_plain_29 ?_
      rw [(ag_s e29).2]
      refine lv_iconst (v := 1) C.1 C.2.1 dX12_plain_30 (by decide) ?_
      refine lv_icmp_ne (tgt := 38) C.1 C.2.1 dX12_plain_31 (by decide) (fun c31 => ?_) (fun c31 => ?_)
      · replace h := ineg c31 h
        refine lv_iconst (v := 0) C.1 C.2.1 dX12_plain_38 (by decide) ?_
        obtain ⟨u39, z39, h⟩ := bnd h
        rw [← Option.some.inj h]
        exact rtZ C X (gb_s z39) dX12_plain_39
      · replace h := ipos c31 h
        refine lv_iconst (v := 1) C.1 C.2.1 dX12_plain_34 (by decide) ?_
        refine lv_goto (tgt := 39) C.1 C.2.1 dX12_plain_35 (by decide) ?_
        obtain ⟨u39, z39, h⟩ := bnd h
        rw [← Option.some.inj h]
        exact rtZ C X (gb_s z39) dX12_plain_39
  · replace h := ineg c6 h
    refine lv_aload_n C.1 C.2.1 dX12_plain_9 rfl (lv_at hl 0 rfl) ?_
    refine gfX12 C G X (k := 399) kd_399 15 (v := .int (σ3 399 15)) rfl rfl (by decide) k_1666 rfl dX12_plain_10 ?_
    obtain ⟨u13, z13, h⟩ := bnd h
    rw [← Option.some.inj h]
    exact rtZ C X (gb_s z13) dX12_plain_13

theorem c_X12_plain (l : Launch) (E : GE) {σ : Mem} {r : (Int32 × Mem)} (h : X12_plain σ = some r) : CtI l E yX12_plain cX12_plain 4 .boolean 12 [.ref (gB E + 399)] σ r.1 r.2 := by
  refine Met.ofW (cc := cX12_plain) (maxL := 4) (ret := (some .boolean)) (by decide) rfl ?_
  intro p e s m args below meth c s₁ B hml hv
  obtain ⟨rfl, G, X⟩ := start hv
  have C := cxof B hml
  have hl := lv_entry [.ref (gB E + 399)] (n := 4) (Nat.le_of_ble_eq_true rfl)
  rw [lg_entry_eq]
  generalize (lg_sl [.ref (gB E + 399)] ++ List.replicate (4 - (lg_sl [.ref (gB E + 399)]).length) Slot.unset).toArray = ls at hl ⊢
  exact w_X12_plain C G X hl h

set_option maxRecDepth 20000 in
theorem w_oX12_atom_138 {r : (Int32 × Mem)} {rf_atom : Mem → Option (Int32 × Mem)} {rf_some : Mem → Option (Int32 × Mem)} {σ : Mem} {x3 : Int32} {ls : Array Slot} {H : Heap} {locs : List Loc} (C : Cx p s m args meth c cX12_atom (some .boolean) 4 RX12) (G : Gf E s) {hd : Nat} (h40 : 40 ≤ hd) (hc_atom : ∀ {σ : Mem} {r : Int32 × Mem}, rf_atom σ = some r → CtI l E yX12_atom cX12_atom 4 .boolean hd [.ref (gB E + 399)] σ r.1 r.2) (hc_some : ∀ {σ : Mem} {r : Int32 × Mem}, rf_some σ = some r → CtI l E yX12_some cX12_some 3 .boolean hd [.ref (gB E + 399)] σ r.1 r.2) (X : Hx E σ s H locs) (hl : lv_has ls 4 [(0, .ref (gB E + 399)), (3, .int x3)]) (h : oX12_atom_138 rf_atom rf_some x3 σ = some r) : W p l e (RM (hd + 4)) s m args below meth c H locs 0 0 (QI E below args s r.1 r.2) (F0 m 138 ls []) := by
  rw [oX12_atom_138] at h
  refine lv_aload_n C.1 C.2.1 dX12_atom_138 rfl (lv_at hl 0 rfl) ?_
  refine lv_dup C.1 C.2.1 dX12_atom_139 rfl ?_
  refine gfX12 C G X (k := 399) kd_399 13 (v := .int (σ 399 13)) rfl rfl (by decide) k_1664 rfl dX12_atom_140 ?_
  refine lv_iconst (v := 1) C.1 C.2.1 dX12_atom_143 (by decide) ?_
  refine lv_isub C.1 C.2.1 dX12_atom_144 ?_
  obtain ⟨σ145, e145, h⟩ := bnd h
  refine pfX12 C G X (k := 399) kd_399 13 (x := ((σ 399 13) - (1 : Int32))) (ty := .int) rfl rfl (Nat.le_of_ble_eq_true rfl) (by decide) k_1664 rfl rfl (by decide +kernel) rfl rfl dX12_atom_145 (fun H locs X => ?_)
  replace X := pu_x e145 X
  refine lv_iload_n C.1 C.2.1 dX12_atom_148 rfl (lv_at hl 1 rfl) ?_
  obtain ⟨u149, z149, h⟩ := bnd h
  rw [← Option.some.inj h]
  exact rtZ C X (gb_s z149) dX12_atom_149

set_option maxRecDepth 20000 in
theorem w_oX12_atom_84 {r : (Int32 × Mem)} {rf_atom : Mem → Option (Int32 × Mem)} {rf_some : Mem → Option (Int32 × Mem)} {σ : Mem} {y0 : Int32} {ls : Array Slot} {H : Heap} {locs : List Loc} (C : Cx p s m args meth c cX12_atom (some .boolean) 4 RX12) (G : Gf E s) {hd : Nat} (h40 : 40 ≤ hd) (hc_atom : ∀ {σ : Mem} {r : Int32 × Mem}, rf_atom σ = some r → CtI l E yX12_atom cX12_atom 4 .boolean hd [.ref (gB E + 399)] σ r.1 r.2) (hc_some : ∀ {σ : Mem} {r : Int32 × Mem}, rf_some σ = some r → CtI l E yX12_some cX12_some 3 .boolean hd [.ref (gB E + 399)] σ r.1 r.2) (X : Hx E σ s H locs) (hl : lv_has ls 4 [(0, .ref (gB E + 399))]) (h : oX12_atom_84 rf_atom rf_some y0 σ = some r) : W p l e (RM (hd + 4)) s m args below meth c H locs 0 0 (QI E below args s r.1 r.2) (F0 m 84 ls [.int y0]) := by
  rw [oX12_atom_84] at h
  refine lv_istore_n (lv' := [(3, .int y0), (0, .ref (gB E + 399))]) C.1 C.2.1 dX12_atom_84 rfl hl (by decide) rfl (fun ls hl => ?_)
  refine lv_goto (tgt := 138) C.1 C.2.1 dX12_atom_85 (by decide) ?_
  exact w_oX12_atom_138 C G h40 hc_atom hc_some X (lv_sub hl [1, 0] rfl) h

set_option maxRecDepth 20000 in
theorem w_oX12_atom_128 {r : (Int32 × Mem)} {rf_atom : Mem → Option (Int32 × Mem)} {rf_some : Mem → Option (Int32 × Mem)} {σ : Mem} {x3 : Int32} {ls : Array Slot} {H : Heap} {locs : List Loc} (C : Cx p s m args meth c cX12_atom (some .boolean) 4 RX12) (G : Gf E s) {hd : Nat} (h40 : 40 ≤ hd) (hc_atom : ∀ {σ : Mem} {r : Int32 × Mem}, rf_atom σ = some r → CtI l E yX12_atom cX12_atom 4 .boolean hd [.ref (gB E + 399)] σ r.1 r.2) (hc_some : ∀ {σ : Mem} {r : Int32 × Mem}, rf_some σ = some r → CtI l E yX12_some cX12_some 3 .boolean hd [.ref (gB E + 399)] σ r.1 r.2) (X : Hx E σ s H locs) (hl : lv_has ls 4 [(0, .ref (gB E + 399)), (3, .int x3)]) (h : oX12_atom_128 rf_atom rf_some x3 σ = some r) : W p l e (RM (hd + 4)) s m args below meth c H locs 0 0 (QI E below args s r.1 r.2) (F0 m 128 ls []) := by
  rw [oX12_atom_128] at h
  refine lv_aload_n C.1 C.2.1 dX12_atom_128 rfl (lv_at hl 0 rfl) ?_
  refine lv_dup C.1 C.2.1 dX12_atom_129 rfl ?_
  refine gfX12 C G X (k := 399) kd_399 11 (v := .int (σ 399 11)) rfl rfl (by decide) k_1662 rfl dX12_atom_130 ?_
  refine lv_iconst (v := 1) C.1 C.2.1 dX12_atom_133 (by decide) ?_
  refine lv_iadd C.1 C.2.1 dX12_atom_134 ?_
  obtain ⟨σ135, e135, h⟩ := bnd h
  refine pfX12 C G X (k := 399) kd_399 11 (x := ((σ 399 11) + (1 : Int32))) (ty := .int) rfl rfl (Nat.le_of_ble_eq_true rfl) (by decide) k_1662 rfl rfl (by decide +kernel) rfl rfl dX12_atom_135 (fun H locs X => ?_)
  replace X := pu_x e135 X
  exact w_oX12_atom_138 C G h40 hc_atom hc_some X (lv_sub hl [0, 1] rfl) h

set_option maxRecDepth 20000 in
theorem w_oX12_atom_40 {r : (Int32 × Mem)} {rf_atom : Mem → Option (Int32 × Mem)} {rf_some : Mem → Option (Int32 × Mem)} {σ : Mem} {x1 : Int32} {x2 : Int32} {ls : Array Slot} {H : Heap} {locs : List Loc} (C : Cx p s m args meth c cX12_atom (some .boolean) 4 RX12) (G : Gf E s) {hd : Nat} (h40 : 40 ≤ hd) (hc_atom : ∀ {σ : Mem} {r : Int32 × Mem}, rf_atom σ = some r → CtI l E yX12_atom cX12_atom 4 .boolean hd [.ref (gB E + 399)] σ r.1 r.2) (hc_some : ∀ {σ : Mem} {r : Int32 × Mem}, rf_some σ = some r → CtI l E yX12_some cX12_some 3 .boolean hd [.ref (gB E + 399)] σ r.1 r.2) (X : Hx E σ s H locs) (hl : lv_has ls 4 [(0, .ref (gB E + 399)), (1, .int x1), (2, .int x2)]) (h : oX12_atom_40 rf_atom rf_some x1 x2 σ = some r) : W p l e (RM (hd + 4)) s m args below meth c H locs 0 0 (QI E below args s r.1 r.2) (F0 m 40 ls []) := by
  rw [oX12_atom_40] at h
  refine lv_aload_n C.1 C.2.1 dX12_atom_40 rfl (lv_at hl 0 rfl) ?_
  refine gfX12 C G X (k := 399) kd_399 13 (v := .int (σ 399 13)) rfl rfl (by decide) k_1664 rfl dX12_atom_41 ?_
  refine lv_bipush (v := 6) C.1 C.2.1 dX12_atom_44 (by decide) ?_
  refine lv_icmp_ne (tgt := 56) C.1 C.2.1 dX12_atom_46 (by decide) (fun c46 => ?_) (fun c46 => ?_)
  · replace h := ineg c46 h
    refine lv_aload_n C.1 C.2.1 dX12_atom_56 rfl (lv_at hl 0 rfl) ?_
    refine lv_dup C.1 C.2.1 dX12_atom_57 rfl ?_
    refine gfX12 C G X (k := 399) kd_399 13 (v := .int (σ 399 13)) rfl rfl (by decide) k_1664 rfl dX12_atom_58 ?_
    refine lv_iconst (v := 1) C.1 C.2.1 dX12_atom_61 (by decide) ?_
    refine lv_iadd C.1 C.2.1 dX12_atom_62 ?_
    obtain ⟨σ63, e63, h⟩ := bnd h
    refine pfX12 C G X (k := 399) kd_399 13 (x := ((σ 399 13) + (1 : Int32))) (ty := .int) rfl rfl (Nat.le_of_ble_eq_true rfl) (by decide) k_1664 rfl rfl (by decide +kernel) rfl rfl dX12_atom_63 (fun H locs X => ?_)
    replace X := pu_x e63 X
    refine lv_iconst (v := 0) C.1 C.2.1 dX12_atom_66 (by decide) ?_
    refine lv_istore_n (lv' := [(3, .int (0 : Int32)), (0, .ref (gB E + 399)), (1, .int x1), (2, .int x2)]) C.1 C.2.1 dX12_atom_67 rfl hl (by decide) rfl (fun ls hl => ?_)
    refine lv_iload_n C.1 C.2.1 dX12_atom_68 rfl (lv_at hl 3 rfl) ?_
    refine lv_if_eq (tgt := 88) C.1 C.2.1 dX12_atom_69 (by decide) (fun c69 => ?_) (fun c69 => ?_)
    · replace h := ipos c69 h
      refine lv_aload_n C.1 C.2.1 dX12_atom_88 rfl (lv_at hl 1 rfl) ?_
      refine lv_dup C.1 C.2.1 dX12_atom_89 rfl ?_
      refine gfX12 C G X (k := 399) kd_399 11 (v := .int (σ63 399 11)) rfl rfl (by decide) k_1662 rfl dX12_atom_90 ?_
      refine lv_iconst (v := 1) C.1 C.2.1 dX12_atom_93 (by decide) ?_
      refine lv_iadd C.1 C.2.1 dX12_atom_94 ?_
      obtain ⟨σ95, e95, h⟩ := bnd h
      refine pfX12 C G X (k := 399) kd_399 11 (x := ((σ63 399 11) + (1 : Int32))) (ty := .int) rfl rfl (Nat.le_of_ble_eq_true rfl) (by decide) k_1662 rfl rfl (by decide +kernel) rfl rfl dX12_atom_95 (fun H locs X => ?_)
      replace X := pu_x e95 X
      refine lv_aload_n C.1 C.2.1 dX12_atom_98 rfl (lv_at hl 1 rfl) ?_
      obtain ⟨r99, σ99, e99, h⟩ := bnd2 h
      refine afI (r0 := r99) (σ' := σ99) X (runV C G X q_X12_some k_1788 kp_36 k_1786 (rcX12 G X kd_399) (hc_some e99) rfl hl.1 rfl (Nat.le_of_ble_eq_true rfl) ⟨by show _ ≤ hd + 4; omega, by show _ ≤ 48 * (hd + 4); omega⟩ ⟨Nat.le_of_ble_eq_true rfl, Nat.le_of_ble_eq_true rfl⟩ dX12_atom_99) (fun H locs X => ?_)
      refine lv_istore_n (lv' := [(3, .int r99), (0, .ref (gB E + 399)), (1, .int x1), (2, .int x2)]) C.1 C.2.1 dX12_atom_102 rfl hl (by decide) rfl (fun ls hl => ?_)
      refine lv_aload_n C.1 C.2.1 dX12_atom_103 rfl (lv_at hl 1 rfl) ?_
      refine gfX12 C G X (k := 399) kd_399 12 (v := .int (σ99 399 12)) rfl rfl (by decide) k_1663 rfl dX12_atom_104 ?_
      refine lv_iconst (v := -1) C.1 C.2.1 dX12_atom_107 (by decide) ?_
      refine lv_icmp_ne (tgt := 128) C.1 C.2.1 dX12_atom_108 (by decide) (fun c108 => ?_) (fun c108 => ?_)
      · replace h := ineg c108 h
        exact w_oX12_atom_128 C G h40 hc_atom hc_some X (lv_sub hl [1, 0] rfl) h
      · replace h := ipos c108 h
        refine lv_aload_n C.1 C.2.1 dX12_atom_111 rfl (lv_at hl 1 rfl) ?_
        refine lv_bipush (v := 41) C.1 C.2.1 dX12_atom_112 (by decide) ?_
        obtain ⟨r114, σ114, e114, h⟩ := bnd2 h
        refine afI (r0 := r114) (σ' := σ114) X (runV C G X q_X12_isSign k_1801 kp_39 k_1799 (rcX12 G X kd_399) (c_X12_isSign l E e114) rfl hl.1 rfl (Nat.le_of_ble_eq_true rfl) ⟨by show _ ≤ hd + 4; omega, by show _ ≤ 48 * (hd + 4); omega⟩ ⟨Nat.le_of_ble_eq_true rfl, Nat.le_of_ble_eq_true rfl⟩ dX12_atom_114) (fun H locs X => ?_)
        refine lv_if_ne (tgt := 128) C.1 C.2.1 dX12_atom_117 (by decide) (fun c117 => ?_) (fun c117 => ?_)
        · replace h := ineg c117 h
          exact w_oX12_atom_128 C G h40 hc_atom hc_some X (lv_sub hl [1, 0] rfl) h
        · replace h := ipos c117 h
          refine lv_aload_n C.1 C.2.1 dX12_atom_120 rfl (lv_at hl 1 rfl) ?_
          refine lv_aload_n C.1 C.2.1 dX12_atom_121 rfl (lv_at hl 1 rfl) ?_
          refine gfX12 C G X (k := 399) kd_399 11 (v := .int (σ114 399 11)) rfl rfl (by decide) k_1662 rfl dX12_atom_122 ?_
          obtain ⟨σ125, e125, h⟩ := bnd h
          refine afV X (runV C G X q_X12_wrong k_1762 kp_31 k_1760 (rcX12 G X kd_399) (c_X12_wrong l E e125) rfl hl.1 rfl (Nat.le_of_ble_eq_true rfl) ⟨by show _ ≤ hd + 4; omega, by show _ ≤ 48 * (hd + 4); omega⟩ ⟨Nat.le_of_ble_eq_true rfl, Nat.le_of_ble_eq_true rfl⟩ dX12_atom_125) (fun H locs X => ?_)
          exact w_oX12_atom_128 C G h40 hc_atom hc_some X (lv_sub hl [1, 0] rfl) h
    · replace h := ineg c69 h
      refine lv_aload_n C.1 C.2.1 dX12_atom_72 rfl (lv_at hl 1 rfl) ?_
      obtain ⟨r73, σ73, e73, h⟩ := bnd2 h
      refine afI (r0 := r73) (σ' := σ73) X (runV C G X q_X12_atom k_1796 kp_38 k_1794 (rcX12 G X kd_399) (hc_atom e73) rfl hl.1 rfl (Nat.le_of_ble_eq_true rfl) ⟨by show _ ≤ hd + 4; omega, by show _ ≤ 48 * (hd + 4); omega⟩ ⟨Nat.le_of_ble_eq_true rfl, Nat.le_of_ble_eq_true rfl⟩ dX12_atom_73) (fun H locs X => ?_)
      refine lv_if_ne (tgt := 83) C.1 C.2.1 dX12_atom_76 (by decide) (fun c76 => ?_) (fun c76 => ?_)
      · replace h := ineg c76 h
        refine lv_iconst (v := 0) C.1 C.2.1 dX12_atom_83 (by decide) ?_
        exact w_oX12_atom_84 C G h40 hc_atom hc_some X (lv_sub hl [1] rfl) h
      · replace h := ipos c76 h
        refine lv_iconst (v := 1) C.1 C.2.1 dX12_atom_79 (by decide) ?_
        refine lv_goto (tgt := 84) C.1 C.2.1 dX12_atom_80 (by decide) ?_
        exact w_oX12_atom_84 C G h40 hc_atom hc_some X (lv_sub hl [1] rfl) h
  · replace h := ipos c46 h
    refine lv_aload_n C.1 C.2.1 dX12_atom_49 rfl (lv_at hl 0 rfl) ?_
    refine lv_iload_n C.1 C.2.1 dX12_atom_50 rfl (lv_at hl 1 rfl) ?_
    obtain ⟨σ51, e51, h⟩ := bnd h
    refine afV X (runV C G X q_X12_wrong k_1762 kp_31 k_1760 (rcX12 G X kd_399) (c_X12_wrong l E e51) rfl hl.1 rfl (Nat.le_of_ble_eq_true rfl) ⟨by show _ ≤ hd + 4; omega, by show _ ≤ 48 * (hd + 4); omega⟩ ⟨Nat.le_of_ble_eq_true rfl, Nat.le_of_ble_eq_true rfl⟩ dX12_atom_51) (fun H locs X => ?_)
    refine lv_iconst (v := 0) C.1 C.2.1 dX12_atom_54 (by decide) ?_
    obtain ⟨u55, z55, h⟩ := bnd h
    rw [← Option.some.inj h]
    exact rtZ C X (gb_s z55) dX12_atom_55

set_option maxRecDepth 20000 in
theorem w_oX12_atom {r : (Int32 × Mem)} {rf_atom : Mem → Option (Int32 × Mem)} {rf_some : Mem → Option (Int32 × Mem)} {σ : Mem} {ls : Array Slot} {H : Heap} {locs : List Loc} (C : Cx p s m args meth c cX12_atom (some .boolean) 4 RX12) (G : Gf E s) {hd : Nat} (h40 : 40 ≤ hd) (hc_atom : ∀ {σ : Mem} {r : Int32 × Mem}, rf_atom σ = some r → CtI l E yX12_atom cX12_atom 4 .boolean hd [.ref (gB E + 399)] σ r.1 r.2) (hc_some : ∀ {σ : Mem} {r : Int32 × Mem}, rf_some σ = some r → CtI l E yX12_some cX12_some 3 .boolean hd [.ref (gB E + 399)] σ r.1 r.2) (X : Hx E σ s H locs) (hl : lv_has ls 4 [(0, .ref (gB E + 399))]) (h : oX12_atom rf_atom rf_some σ = some r) : W p l e (RM (hd + 4)) s m args below meth c H locs 0 0 (QI E below args s r.1 r.2) (F0 m 0 ls []) := by
  rw [oX12_atom] at h
  refine lv_aload_n C.1 C.2.1 dX12_atom_0 rfl (lv_at hl 0 rfl) ?_
  refine gfX12 C G X (k := 399) kd_399 12 (v := .int (σ 399 12)) rfl rfl (by decide) k_1663 rfl dX12_atom_1 ?_
  refine lv_iconst (v := -1) C.1 C.2.1 dX12_atom_4 (by decide) ?_
  refine lv_icmp_eq (tgt := 10) C.1 C.2.1 dX12_atom_5 (by decide) (fun c5 => ?_) (fun c5 => ?_)
  · replace h := ipos c5 h
    refine lv_aload_n C.1 C.2.1 dX12_atom_10 rfl (lv_at hl 0 rfl) ?_
    obtain ⟨r11, σ11, e11, h⟩ := bnd2 h
    refine afI (r0 := r11) (σ' := σ11) X (runV C G X q_X12_here k_1783 kp_35 k_1781 (rcX12 G X kd_399) (c_X12_here l E e11) rfl hl.1 rfl (Nat.le_of_ble_eq_true rfl) ⟨by show _ ≤ hd + 4; omega, by show _ ≤ 48 * (hd + 4); omega⟩ ⟨Nat.le_of_ble_eq_true rfl, Nat.le_of_ble_eq_true rfl⟩ dX12_atom_11) (fun H locs X => ?_)
    refine lv_istore_n (lv' := [(1, .int r11), (0, .ref (gB E + 399))]) C.1 C.2.1 dX12_atom_14 rfl hl (by decide) rfl (fun ls hl => ?_)
    refine lv_aload_n C.1 C.2.1 dX12_atom_15 rfl (lv_at hl 1 rfl) ?_
    refine ldS C G (i := 207) (tx := "not") (ti := 27) (by decide +kernel) dX12_atom_16 ?_
    obtain ⟨r18, σ18, e18, h⟩ := bnd2 h
    refine afI (r0 := r18) (σ' := σ18) X (runV C G X q_X12_has k_1771 kp_33 k_1769 (rcX12 G X kd_399) (c_X12_has l E e18) rfl hl.1 rfl (Nat.le_of_ble_eq_true rfl) ⟨by show _ ≤ hd + 4; omega, by show _ ≤ 48 * (hd + 4); omega⟩ ⟨Nat.le_of_ble_eq_true rfl, Nat.le_of_ble_eq_true rfl⟩ dX12_atom_18) (fun H locs X => ?_)
    refine lv_istore_n (lv' := [(2, .int r18), (1, .int r11), (0, .ref (gB E + 399))]) C.1 C.2.1 dX12_atom_21 rfl hl (by decide) rfl (fun ls hl => ?_)
    refine lv_iload_n C.1 C.2.1 dX12_atom_22 rfl (lv_at hl 0 rfl) ?_
    refine lv_if_ne (tgt := 40) C.1 C.2.1 dX12_atom_23 (by decide) (fun c23 => ?_) (fun c23 => ?_)
    · replace h := ineg c23 h
      exact w_oX12_atom_40 C G h40 hc_atom hc_some X (lv_sub hl [2, 1, 0] rfl) h
    · replace h := ipos c23 h
      refine lv_aload_n C.1 C.2.1 dX12_atom_26 rfl (lv_at hl 2 rfl) ?_
      refine lv_bipush (v := 40) C.1 C.2.1 dX12_atom_27 (by decide) ?_
      obtain ⟨r29, σ29, e29, h⟩ := bnd2 h
      refine afI (r0 := r29) (σ' := σ29) X (runV C G X q_X12_isSign k_1801 kp_39 k_1799 (rcX12 G X kd_399) (c_X12_isSign l E e29) rfl hl.1 rfl (Nat.le_of_ble_eq_true rfl) ⟨by show _ ≤ hd + 4; omega, by show _ ≤ 48 * (hd + 4); omega⟩ ⟨Nat.le_of_ble_eq_true rfl, Nat.le_of_ble_eq_true rfl⟩ dX12_atom_29) (fun H locs X => ?_)
      refine lv_if_ne (tgt := 40) C.1 C.2.1 dX12_atom_32 (by decide) (fun c32 => ?_) (fun c32 => ?_)
      · replace h := ineg c32 h
        exact w_oX12_atom_40 C G h40 hc_atom hc_some X (lv_sub hl [2, 1, 0] rfl) h
      · replace h := ipos c32 h
        refine lv_aload_n C.1 C.2.1 dX12_atom_35 rfl (lv_at hl 2 rfl) ?_
        obtain ⟨r36, σ36, e36, h⟩ := bnd2 h
        refine afI (r0 := r36) (σ' := σ36) X (runV C G X q_X12_plain k_1805 kp_40 k_1803 (rcX12 G X kd_399) (c_X12_plain l E e36) rfl hl.1 rfl (Nat.le_of_ble_eq_true rfl) ⟨by show _ ≤ hd + 4; omega, by show _ ≤ 48 * (hd + 4); omega⟩ ⟨Nat.le_of_ble_eq_true rfl, Nat.le_of_ble_eq_true rfl⟩ dX12_atom_36) (fun H locs X => ?_)
        obtain ⟨u39, z39, h⟩ := bnd h
        rw [← Option.some.inj h]
        exact rtZ C X (gb_s z39) dX12_atom_39
  · replace h := ineg c5 h
    refine lv_iconst (v := 0) C.1 C.2.1 dX12_atom_8 (by decide) ?_
    obtain ⟨u9, z9, h⟩ := bnd h
    rw [← Option.some.inj h]
    exact rtZ C X (gb_s z9) dX12_atom_9

theorem c_X12_atom_o (l : Launch) (E : GE) {rf_atom : Mem → Option (Int32 × Mem)} {rf_some : Mem → Option (Int32 × Mem)} {hd : Nat} (h40 : 40 ≤ hd) (hc_atom : ∀ {σ : Mem} {r : Int32 × Mem}, rf_atom σ = some r → CtI l E yX12_atom cX12_atom 4 .boolean hd [.ref (gB E + 399)] σ r.1 r.2) (hc_some : ∀ {σ : Mem} {r : Int32 × Mem}, rf_some σ = some r → CtI l E yX12_some cX12_some 3 .boolean hd [.ref (gB E + 399)] σ r.1 r.2) {σ : Mem} {r : (Int32 × Mem)} (h : oX12_atom rf_atom rf_some σ = some r) : CtI l E yX12_atom cX12_atom 4 .boolean (hd + 4) [.ref (gB E + 399)] σ r.1 r.2 := by
  refine Met.ofW (cc := cX12_atom) (maxL := 4) (ret := (some .boolean)) (by decide) rfl ?_
  intro p e s m args below meth c s₁ B hml hv
  obtain ⟨rfl, G, X⟩ := start hv
  have C := cxof B hml
  have hl := lv_entry [.ref (gB E + 399)] (n := 4) (Nat.le_of_ble_eq_true rfl)
  rw [lg_entry_eq]
  generalize (lg_sl [.ref (gB E + 399)] ++ List.replicate (4 - (lg_sl [.ref (gB E + 399)]).length) Slot.unset).toArray = ls at hl ⊢
  exact w_oX12_atom C G h40 hc_atom hc_some X hl h

set_option maxRecDepth 20000 in
theorem w_oX12_every_40 {r : (Int32 × Mem)} {rf_atom : Mem → Option (Int32 × Mem)} {σ : Mem} {rc5 : Int32 → Mem → Option (Int32 × Mem)} {y0 : Int32} {ls : Array Slot} {H : Heap} {locs : List Loc} (C : Cx p s m args meth c cX12_every (some .boolean) 3 RX12) (G : Gf E s) {hd : Nat} (h40 : 40 ≤ hd) (hc_atom : ∀ {σ : Mem} {r : Int32 × Mem}, rf_atom σ = some r → CtI l E yX12_atom cX12_atom 4 .boolean hd [.ref (gB E + 399)] σ r.1 r.2) (hr5 : ∀ {x1 : Int32} {σ : Mem} {ls : Array Slot} {H : Heap} {locs : List Loc}, Hx E σ s H locs → lv_has ls 3 [(0, .ref (gB E + 399)), (1, .int x1)] → rc5 x1 σ = some r → W p l e (RM (hd + 4)) s m args below meth c H locs 0 0 (QI E below args s r.1 r.2) (F0 m 5 ls [])) (X : Hx E σ s H locs) (hl : lv_has ls 3 [(0, .ref (gB E + 399))]) (h : oX12_every_40 rf_atom rc5 y0 σ = some r) : W p l e (RM (hd + 4)) s m args below meth c H locs 0 0 (QI E below args s r.1 r.2) (F0 m 40 ls [.int y0]) := by
  rw [oX12_every_40] at h
  refine lv_istore_n (lv' := [(1, .int y0), (0, .ref (gB E + 399))]) C.1 C.2.1 dX12_every_40 rfl hl (by decide) rfl (fun ls hl => ?_)
  refine lv_goto (tgt := 5) C.1 C.2.1 dX12_every_41 (by decide) ?_
  exact hr5 X (lv_sub hl [1, 0] rfl) h

set_option maxRecDepth 20000 in
theorem w_oX12_every_39 {r : (Int32 × Mem)} {rf_atom : Mem → Option (Int32 × Mem)} {σ : Mem} {rc5 : Int32 → Mem → Option (Int32 × Mem)} {ls : Array Slot} {H : Heap} {locs : List Loc} (C : Cx p s m args meth c cX12_every (some .boolean) 3 RX12) (G : Gf E s) {hd : Nat} (h40 : 40 ≤ hd) (hc_atom : ∀ {σ : Mem} {r : Int32 × Mem}, rf_atom σ = some r → CtI l E yX12_atom cX12_atom 4 .boolean hd [.ref (gB E + 399)] σ r.1 r.2) (hr5 : ∀ {x1 : Int32} {σ : Mem} {ls : Array Slot} {H : Heap} {locs : List Loc}, Hx E σ s H locs → lv_has ls 3 [(0, .ref (gB E + 399)), (1, .int x1)] → rc5 x1 σ = some r → W p l e (RM (hd + 4)) s m args below meth c H locs 0 0 (QI E below args s r.1 r.2) (F0 m 5 ls [])) (X : Hx E σ s H locs) (hl : lv_has ls 3 [(0, .ref (gB E + 399))]) (h : oX12_every_39 rf_atom rc5 σ = some r) : W p l e (RM (hd + 4)) s m args below meth c H locs 0 0 (QI E below args s r.1 r.2) (F0 m 39 ls []) := by
  rw [oX12_every_39] at h
  refine lv_iconst (v := 0) C.1 C.2.1 dX12_every_39 (by decide) ?_
  exact w_oX12_every_40 C G h40 hc_atom hr5 X (lv_sub hl [0] rfl) h

set_option maxRecDepth 20000 in
theorem w_oX12_every_5 {r : (Int32 × Mem)} {rf_atom : Mem → Option (Int32 × Mem)} (C : Cx p s m args meth c cX12_every (some .boolean) 3 RX12) (G : Gf E s) {hd : Nat} (h40 : 40 ≤ hd) (hc_atom : ∀ {σ : Mem} {r : Int32 × Mem}, rf_atom σ = some r → CtI l E yX12_atom cX12_atom 4 .boolean hd [.ref (gB E + 399)] σ r.1 r.2) : ∀ (f : Nat) {x1 : Int32} {σ : Mem} {ls : Array Slot} {H : Heap} {locs : List Loc}, Hx E σ s H locs → lv_has ls 3 [(0, .ref (gB E + 399)), (1, .int x1)] → oX12_every_5 rf_atom f x1 σ = some r → W p l e (RM (hd + 4)) s m args below meth c H locs 0 0 (QI E below args s r.1 r.2) (F0 m 5 ls []) := by
  intro f
  induction f with
  | zero =>
    intro x1 σ ls H locs X hl h
    rw [oX12_every_5] at h
    cases h
  | succ f ih =>
    intro x1 σ ls H locs X hl h
    rw [oX12_every_5] at h
    refine lv_aload_n C.1 C.2.1 dX12_every_5 rfl (lv_at hl 0 rfl) ?_
    refine gfX12 C G X (k := 399) kd_399 12 (v := .int (σ 399 12)) rfl rfl (by decide) k_1663 rfl dX12_every_6 ?_
    refine lv_iconst (v := -1) C.1 C.2.1 dX12_every_9 (by decide) ?_
    refine lv_icmp_ne (tgt := 44) C.1 C.2.1 dX12_every_10 (by decide) (fun c10 => ?_) (fun c10 => ?_)
    · replace h := ineg c10 h
      refine lv_iload_n C.1 C.2.1 dX12_every_44 rfl (lv_at hl 1 rfl) ?_
      obtain ⟨u45, z45, h⟩ := bnd h
      rw [← Option.some.inj h]
      exact rtZ C X (gb_s z45) dX12_every_45
    · replace h := ipos c10 h
      refine lv_aload_n C.1 C.2.1 dX12_every_13 rfl (lv_at hl 0 rfl) ?_
      refine ldS C G (i := 219) (tx := "and") (ti := 28) (by decide +kernel) dX12_every_14 ?_
      obtain ⟨r16, σ16, e16, h⟩ := bnd2 h
      refine afI (r0 := r16) (σ' := σ16) X (runV C G X q_X12_has k_1771 kp_33 k_1769 (rcX12 G X kd_399) (c_X12_has l E e16) rfl hl.1 rfl (Nat.le_of_ble_eq_true rfl) ⟨by show _ ≤ hd + 4; omega, by show _ ≤ 48 * (hd + 4); omega⟩ ⟨Nat.le_of_ble_eq_true rfl, Nat.le_of_ble_eq_true rfl⟩ dX12_every_16) (fun H locs X => ?_)
      refine lv_if_eq (tgt := 44) C.1 C.2.1 dX12_every_19 (by decide) (fun c19 => ?_) (fun c19 => ?_)
      · replace h := ipos c19 h
        refine lv_iload_n C.1 C.2.1 dX12_every_44 rfl (lv_at hl 1 rfl) ?_
        obtain ⟨u45, z45, h⟩ := bnd h
        rw [← Option.some.inj h]
        exact rtZ C X (gb_s z45) dX12_every_45
      · replace h := ineg c19 h
        refine lv_aload_n C.1 C.2.1 dX12_every_22 rfl (lv_at hl 0 rfl) ?_
        obtain ⟨r23, σ23, e23, h⟩ := bnd2 h
        refine afI (r0 := r23) (σ' := σ23) X (runV C G X q_X12_atom k_1796 kp_38 k_1794 (rcX12 G X kd_399) (hc_atom e23) rfl hl.1 rfl (Nat.le_of_ble_eq_true rfl) ⟨by show _ ≤ hd + 4; omega, by show _ ≤ 48 * (hd + 4); omega⟩ ⟨Nat.le_of_ble_eq_true rfl, Nat.le_of_ble_eq_true rfl⟩ dX12_every_23) (fun H locs X => ?_)
        refine lv_istore_n (lv' := [(2, .int r23), (0, .ref (gB E + 399)), (1, .int x1)]) C.1 C.2.1 dX12_every_26 rfl hl (by decide) rfl (fun ls hl => ?_)
        refine lv_iload_n C.1 C.2.1 dX12_every_27 rfl (lv_at hl 2 rfl) ?_
        refine lv_if_eq (tgt := 39) C.1 C.2.1 dX12_every_28 (by decide) (fun c28 => ?_) (fun c28 => ?_)
        · replace h := ipos c28 h
          exact w_oX12_every_39 C G h40 hc_atom ih X (lv_sub hl [1] rfl) h
        · replace h := ineg c28 h
          refine lv_iload_n C.1 C.2.1 dX12_every_31 rfl (lv_at hl 0 rfl) ?_
          refine lv_if_eq (tgt := 39) C.1 C.2.1 dX12_every_32 (by decide) (fun c32 => ?_) (fun c32 => ?_)
          · replace h := ipos c32 h
            exact w_oX12_every_39 C G h40 hc_atom ih X (lv_sub hl [1] rfl) h
          · replace h := ineg c32 h
            refine lv_iconst (v := 1) C.1 C.2.1 dX12_every_35 (by decide) ?_
            refine lv_goto (tgt := 40) C.1 C.2.1 dX12_every_36 (by decide) ?_
            exact w_oX12_every_40 C G h40 hc_atom ih X (lv_sub hl [1] rfl) h

set_option maxRecDepth 20000 in
theorem w_oX12_every {r : (Int32 × Mem)} {rf_atom : Mem → Option (Int32 × Mem)} {σ : Mem} {ls : Array Slot} {H : Heap} {locs : List Loc} (C : Cx p s m args meth c cX12_every (some .boolean) 3 RX12) (G : Gf E s) {hd : Nat} (h40 : 40 ≤ hd) (hc_atom : ∀ {σ : Mem} {r : Int32 × Mem}, rf_atom σ = some r → CtI l E yX12_atom cX12_atom 4 .boolean hd [.ref (gB E + 399)] σ r.1 r.2) (X : Hx E σ s H locs) (hl : lv_has ls 3 [(0, .ref (gB E + 399))]) (h : oX12_every rf_atom σ = some r) : W p l e (RM (hd + 4)) s m args below meth c H locs 0 0 (QI E below args s r.1 r.2) (F0 m 0 ls []) := by
  rw [oX12_every] at h
  refine lv_aload_n C.1 C.2.1 dX12_every_0 rfl (lv_at hl 0 rfl) ?_
  obtain ⟨r1, σ1, e1, h⟩ := bnd2 h
  refine afI (r0 := r1) (σ' := σ1) X (runV C G X q_X12_atom k_1796 kp_38 k_1794 (rcX12 G X kd_399) (hc_atom e1) rfl hl.1 rfl (Nat.le_of_ble_eq_true rfl) ⟨by show _ ≤ hd + 4; omega, by show _ ≤ 48 * (hd + 4); omega⟩ ⟨Nat.le_of_ble_eq_true rfl, Nat.le_of_ble_eq_true rfl⟩ dX12_every_1) (fun H locs X => ?_)
  refine lv_istore_n (lv' := [(1, .int r1), (0, .ref (gB E + 399))]) C.1 C.2.1 dX12_every_4 rfl hl (by decide) rfl (fun ls hl => ?_)
  exact w_oX12_every_5 C G h40 hc_atom FU X (lv_sub hl [1, 0] rfl) h

theorem c_X12_every_o (l : Launch) (E : GE) {rf_atom : Mem → Option (Int32 × Mem)} {hd : Nat} (h40 : 40 ≤ hd) (hc_atom : ∀ {σ : Mem} {r : Int32 × Mem}, rf_atom σ = some r → CtI l E yX12_atom cX12_atom 4 .boolean hd [.ref (gB E + 399)] σ r.1 r.2) {σ : Mem} {r : (Int32 × Mem)} (h : oX12_every rf_atom σ = some r) : CtI l E yX12_every cX12_every 3 .boolean (hd + 4) [.ref (gB E + 399)] σ r.1 r.2 := by
  refine Met.ofW (cc := cX12_every) (maxL := 3) (ret := (some .boolean)) (by decide) rfl ?_
  intro p e s m args below meth c s₁ B hml hv
  obtain ⟨rfl, G, X⟩ := start hv
  have C := cxof B hml
  have hl := lv_entry [.ref (gB E + 399)] (n := 3) (Nat.le_of_ble_eq_true rfl)
  rw [lg_entry_eq]
  generalize (lg_sl [.ref (gB E + 399)] ++ List.replicate (3 - (lg_sl [.ref (gB E + 399)]).length) Slot.unset).toArray = ls at hl ⊢
  exact w_oX12_every C G h40 hc_atom X hl h

set_option maxRecDepth 20000 in
theorem w_oX12_some_40 {r : (Int32 × Mem)} {rf_every : Mem → Option (Int32 × Mem)} {σ : Mem} {rc5 : Int32 → Mem → Option (Int32 × Mem)} {y0 : Int32} {ls : Array Slot} {H : Heap} {locs : List Loc} (C : Cx p s m args meth c cX12_some (some .boolean) 3 RX12) (G : Gf E s) {hd : Nat} (h40 : 40 ≤ hd) (hc_every : ∀ {σ : Mem} {r : Int32 × Mem}, rf_every σ = some r → CtI l E yX12_every cX12_every 3 .boolean hd [.ref (gB E + 399)] σ r.1 r.2) (hr5 : ∀ {x1 : Int32} {σ : Mem} {ls : Array Slot} {H : Heap} {locs : List Loc}, Hx E σ s H locs → lv_has ls 3 [(0, .ref (gB E + 399)), (1, .int x1)] → rc5 x1 σ = some r → W p l e (RM (hd + 4)) s m args below meth c H locs 0 0 (QI E below args s r.1 r.2) (F0 m 5 ls [])) (X : Hx E σ s H locs) (hl : lv_has ls 3 [(0, .ref (gB E + 399))]) (h : oX12_some_40 rf_every rc5 y0 σ = some r) : W p l e (RM (hd + 4)) s m args below meth c H locs 0 0 (QI E below args s r.1 r.2) (F0 m 40 ls [.int y0]) := by
  rw [oX12_some_40] at h
  refine lv_istore_n (lv' := [(1, .int y0), (0, .ref (gB E + 399))]) C.1 C.2.1 dX12_some_40 rfl hl (by decide) rfl (fun ls hl => ?_)
  refine lv_goto (tgt := 5) C.1 C.2.1 dX12_some_41 (by decide) ?_
  exact hr5 X (lv_sub hl [1, 0] rfl) h

set_option maxRecDepth 20000 in
theorem w_oX12_some_35 {r : (Int32 × Mem)} {rf_every : Mem → Option (Int32 × Mem)} {σ : Mem} {rc5 : Int32 → Mem → Option (Int32 × Mem)} {ls : Array Slot} {H : Heap} {locs : List Loc} (C : Cx p s m args meth c cX12_some (some .boolean) 3 RX12) (G : Gf E s) {hd : Nat} (h40 : 40 ≤ hd) (hc_every : ∀ {σ : Mem} {r : Int32 × Mem}, rf_every σ = some r → CtI l E yX12_every cX12_every 3 .boolean hd [.ref (gB E + 399)] σ r.1 r.2) (hr5 : ∀ {x1 : Int32} {σ : Mem} {ls : Array Slot} {H : Heap} {locs : List Loc}, Hx E σ s H locs → lv_has ls 3 [(0, .ref (gB E + 399)), (1, .int x1)] → rc5 x1 σ = some r → W p l e (RM (hd + 4)) s m args below meth c H locs 0 0 (QI E below args s r.1 r.2) (F0 m 5 ls [])) (X : Hx E σ s H locs) (hl : lv_has ls 3 [(0, .ref (gB E + 399))]) (h : oX12_some_35 rf_every rc5 σ = some r) : W p l e (RM (hd + 4)) s m args below meth c H locs 0 0 (QI E below args s r.1 r.2) (F0 m 35 ls []) := by
  rw [oX12_some_35] at h
  refine lv_iconst (v := 1) C.1 C.2.1 dX12_some_35 (by decide) ?_
  refine lv_goto (tgt := 40) C.1 C.2.1 dX12_some_36 (by decide) ?_
  exact w_oX12_some_40 C G h40 hc_every hr5 X (lv_sub hl [0] rfl) h

set_option maxRecDepth 20000 in
theorem w_oX12_some_5 {r : (Int32 × Mem)} {rf_every : Mem → Option (Int32 × Mem)} (C : Cx p s m args meth c cX12_some (some .boolean) 3 RX12) (G : Gf E s) {hd : Nat} (h40 : 40 ≤ hd) (hc_every : ∀ {σ : Mem} {r : Int32 × Mem}, rf_every σ = some r → CtI l E yX12_every cX12_every 3 .boolean hd [.ref (gB E + 399)] σ r.1 r.2) : ∀ (f : Nat) {x1 : Int32} {σ : Mem} {ls : Array Slot} {H : Heap} {locs : List Loc}, Hx E σ s H locs → lv_has ls 3 [(0, .ref (gB E + 399)), (1, .int x1)] → oX12_some_5 rf_every f x1 σ = some r → W p l e (RM (hd + 4)) s m args below meth c H locs 0 0 (QI E below args s r.1 r.2) (F0 m 5 ls []) := by
  intro f
  induction f with
  | zero =>
    intro x1 σ ls H locs X hl h
    rw [oX12_some_5] at h
    cases h
  | succ f ih =>
    intro x1 σ ls H locs X hl h
    rw [oX12_some_5] at h
    refine lv_aload_n C.1 C.2.1 dX12_some_5 rfl (lv_at hl 0 rfl) ?_
    refine gfX12 C G X (k := 399) kd_399 12 (v := .int (σ 399 12)) rfl rfl (by decide) k_1663 rfl dX12_some_6 ?_
    refine lv_iconst (v := -1) C.1 C.2.1 dX12_some_9 (by decide) ?_
    refine lv_icmp_ne (tgt := 44) C.1 C.2.1 dX12_some_10 (by decide) (fun c10 => ?_) (fun c10 => ?_)
    · replace h := ineg c10 h
      refine lv_iload_n C.1 C.2.1 dX12_some_44 rfl (lv_at hl 1 rfl) ?_
      obtain ⟨u45, z45, h⟩ := bnd h
      rw [← Option.some.inj h]
      exact rtZ C X (gb_s z45) dX12_some_45
    · replace h := ipos c10 h
      refine lv_aload_n C.1 C.2.1 dX12_some_13 rfl (lv_at hl 0 rfl) ?_
      refine ldS C G (i := 224) (tx := "or") (ti := 29) (by decide +kernel) dX12_some_14 ?_
      obtain ⟨r16, σ16, e16, h⟩ := bnd2 h
      refine afI (r0 := r16) (σ' := σ16) X (runV C G X q_X12_has k_1771 kp_33 k_1769 (rcX12 G X kd_399) (c_X12_has l E e16) rfl hl.1 rfl (Nat.le_of_ble_eq_true rfl) ⟨by show _ ≤ hd + 4; omega, by show _ ≤ 48 * (hd + 4); omega⟩ ⟨Nat.le_of_ble_eq_true rfl, Nat.le_of_ble_eq_true rfl⟩ dX12_some_16) (fun H locs X => ?_)
      refine lv_if_eq (tgt := 44) C.1 C.2.1 dX12_some_19 (by decide) (fun c19 => ?_) (fun c19 => ?_)
      · replace h := ipos c19 h
        refine lv_iload_n C.1 C.2.1 dX12_some_44 rfl (lv_at hl 1 rfl) ?_
        obtain ⟨u45, z45, h⟩ := bnd h
        rw [← Option.some.inj h]
        exact rtZ C X (gb_s z45) dX12_some_45
      · replace h := ineg c19 h
        refine lv_aload_n C.1 C.2.1 dX12_some_22 rfl (lv_at hl 0 rfl) ?_
        obtain ⟨r23, σ23, e23, h⟩ := bnd2 h
        refine afI (r0 := r23) (σ' := σ23) X (runV C G X q_X12_every k_1792 kp_37 k_1790 (rcX12 G X kd_399) (hc_every e23) rfl hl.1 rfl (Nat.le_of_ble_eq_true rfl) ⟨by show _ ≤ hd + 4; omega, by show _ ≤ 48 * (hd + 4); omega⟩ ⟨Nat.le_of_ble_eq_true rfl, Nat.le_of_ble_eq_true rfl⟩ dX12_some_23) (fun H locs X => ?_)
        refine lv_istore_n (lv' := [(2, .int r23), (0, .ref (gB E + 399)), (1, .int x1)]) C.1 C.2.1 dX12_some_26 rfl hl (by decide) rfl (fun ls hl => ?_)
        refine lv_iload_n C.1 C.2.1 dX12_some_27 rfl (lv_at hl 2 rfl) ?_
        refine lv_if_ne (tgt := 35) C.1 C.2.1 dX12_some_28 (by decide) (fun c28 => ?_) (fun c28 => ?_)
        · replace h := ineg c28 h
          exact w_oX12_some_35 C G h40 hc_every ih X (lv_sub hl [1] rfl) h
        · replace h := ipos c28 h
          refine lv_iload_n C.1 C.2.1 dX12_some_31 rfl (lv_at hl 0 rfl) ?_
          refine lv_if_eq (tgt := 39) C.1 C.2.1 dX12_some_32 (by decide) (fun c32 => ?_) (fun c32 => ?_)
          · replace h := ipos c32 h
            refine lv_iconst (v := 0) C.1 C.2.1 dX12_some_39 (by decide) ?_
            exact w_oX12_some_40 C G h40 hc_every ih X (lv_sub hl [1] rfl) h
          · replace h := ineg c32 h
            exact w_oX12_some_35 C G h40 hc_every ih X (lv_sub hl [1] rfl) h

set_option maxRecDepth 20000 in
theorem w_oX12_some {r : (Int32 × Mem)} {rf_every : Mem → Option (Int32 × Mem)} {σ : Mem} {ls : Array Slot} {H : Heap} {locs : List Loc} (C : Cx p s m args meth c cX12_some (some .boolean) 3 RX12) (G : Gf E s) {hd : Nat} (h40 : 40 ≤ hd) (hc_every : ∀ {σ : Mem} {r : Int32 × Mem}, rf_every σ = some r → CtI l E yX12_every cX12_every 3 .boolean hd [.ref (gB E + 399)] σ r.1 r.2) (X : Hx E σ s H locs) (hl : lv_has ls 3 [(0, .ref (gB E + 399))]) (h : oX12_some rf_every σ = some r) : W p l e (RM (hd + 4)) s m args below meth c H locs 0 0 (QI E below args s r.1 r.2) (F0 m 0 ls []) := by
  rw [oX12_some] at h
  refine lv_aload_n C.1 C.2.1 dX12_some_0 rfl (lv_at hl 0 rfl) ?_
  obtain ⟨r1, σ1, e1, h⟩ := bnd2 h
  refine afI (r0 := r1) (σ' := σ1) X (runV C G X q_X12_every k_1792 kp_37 k_1790 (rcX12 G X kd_399) (hc_every e1) rfl hl.1 rfl (Nat.le_of_ble_eq_true rfl) ⟨by show _ ≤ hd + 4; omega, by show _ ≤ 48 * (hd + 4); omega⟩ ⟨Nat.le_of_ble_eq_true rfl, Nat.le_of_ble_eq_true rfl⟩ dX12_some_1) (fun H locs X => ?_)
  refine lv_istore_n (lv' := [(1, .int r1), (0, .ref (gB E + 399))]) C.1 C.2.1 dX12_some_4 rfl hl (by decide) rfl (fun ls hl => ?_)
  exact w_oX12_some_5 C G h40 hc_every FU X (lv_sub hl [1, 0] rfl) h

theorem c_X12_some_o (l : Launch) (E : GE) {rf_every : Mem → Option (Int32 × Mem)} {hd : Nat} (h40 : 40 ≤ hd) (hc_every : ∀ {σ : Mem} {r : Int32 × Mem}, rf_every σ = some r → CtI l E yX12_every cX12_every 3 .boolean hd [.ref (gB E + 399)] σ r.1 r.2) {σ : Mem} {r : (Int32 × Mem)} (h : oX12_some rf_every σ = some r) : CtI l E yX12_some cX12_some 3 .boolean (hd + 4) [.ref (gB E + 399)] σ r.1 r.2 := by
  refine Met.ofW (cc := cX12_some) (maxL := 3) (ret := (some .boolean)) (by decide) rfl ?_
  intro p e s m args below meth c s₁ B hml hv
  obtain ⟨rfl, G, X⟩ := start hv
  have C := cxof B hml
  have hl := lv_entry [.ref (gB E + 399)] (n := 3) (Nat.le_of_ble_eq_true rfl)
  rw [lg_entry_eq]
  generalize (lg_sl [.ref (gB E + 399)] ++ List.replicate (3 - (lg_sl [.ref (gB E + 399)]).length) Slot.unset).toArray = ls at hl ⊢
  exact w_oX12_some C G h40 hc_every X hl h

theorem k_rc12 (l : Launch) (E : GE) : ∀ d : Nat, (∀ {σ : Mem} {r : Int32 × Mem}, (rc12 d).1 σ = some r → CtI l E yX12_atom cX12_atom 4 .boolean (40 + 4 * d) [.ref (gB E + 399)] σ r.1 r.2) ∧ (∀ {σ : Mem} {r : Int32 × Mem}, (rc12 d).2.1 σ = some r → CtI l E yX12_every cX12_every 3 .boolean (40 + 4 * d) [.ref (gB E + 399)] σ r.1 r.2) ∧ (∀ {σ : Mem} {r : Int32 × Mem}, (rc12 d).2.2 σ = some r → CtI l E yX12_some cX12_some 3 .boolean (40 + 4 * d) [.ref (gB E + 399)] σ r.1 r.2) := by
  intro d
  induction d with
  | zero => exact ⟨fun h => by simp [rc12] at h, fun h => by simp [rc12] at h, fun h => by simp [rc12] at h⟩
  | succ d ih =>
    obtain ⟨ih0, ih1, ih2⟩ := ih
    rw [show 40 + 4 * (d + 1) = (40 + 4 * d) + 4 by omega]
    refine ⟨?_, ?_, ?_⟩
    · intro σ r h
      exact c_X12_atom_o l E (hd := 40 + 4 * d) (by omega) ih0 ih2 h
    · intro σ r h
      exact c_X12_every_o l E (hd := 40 + 4 * d) (by omega) ih0 h
    · intro σ r h
      exact c_X12_some_o l E (hd := 40 + 4 * d) (by omega) ih1 h

theorem c_X12_atom (l : Launch) (E : GE) {σ : Mem} {r : Int32 × Mem} (h : X12_atom σ = some r) : CtI l E yX12_atom cX12_atom 4 .boolean 200 [.ref (gB E + 399)] σ r.1 r.2 := (k_rc12 l E 40).1 h

theorem c_X12_every (l : Launch) (E : GE) {σ : Mem} {r : Int32 × Mem} (h : X12_every σ = some r) : CtI l E yX12_every cX12_every 3 .boolean 200 [.ref (gB E + 399)] σ r.1 r.2 := (k_rc12 l E 40).2.1 h

theorem c_X12_some (l : Launch) (E : GE) {σ : Mem} {r : Int32 × Mem} (h : X12_some σ = some r) : CtI l E yX12_some cX12_some 3 .boolean 200 [.ref (gB E + 399)] σ r.1 r.2 := (k_rc12 l E 40).2.2 h

set_option maxRecDepth 20000 in
theorem w_X12_lawLine_134 {r : Mem} {σ : Mem} {x1 : Int32} {x2 : Int32} {y1 : Int32} {ls : Array Slot} {H : Heap} {locs : List Loc} (C : Cx p s m args meth c cX12_lawLine none 4 RX12) (G : Gf E s) (X : Hx E σ s H locs) (hl : lv_has ls 4 [(0, .ref (gB E + 399)), (1, .int x1), (2, .int x2)]) (h : X12_lawLine_134 x1 x2 y1 σ = some r) : W p l e (RM 201) s m args below meth c H locs 0 0 (QV E below args s r) (F0 m 134 ls [.int y1, .ref (gB E + 399)]) := by
  rw [X12_lawLine_134] at h
  obtain ⟨u134, z134, h⟩ := bnd h
  obtain ⟨σ134, e134, h⟩ := bnd h
  refine pfX12 C G X (k := 399) kd_399 17 (x := y1) (ty := .boolean) rfl rfl (Nat.le_of_ble_eq_true rfl) (by decide) k_1668 rfl rfl (by decide +kernel) (gb_s z134).1 (gb_s z134).2 dX12_lawLine_134 (fun H locs X => ?_)
  replace X := pu_x e134 X
  refine lv_aload_n C.1 C.2.1 dX12_lawLine_137 rfl (lv_at hl 0 rfl) ?_
  refine lv_dup C.1 C.2.1 dX12_lawLine_138 rfl ?_
  refine gfX12 C G X (k := 399) kd_399 16 (v := .int (σ134 399 16)) rfl rfl (by decide) k_1667 rfl dX12_lawLine_139 ?_
  refine lv_iload_n C.1 C.2.1 dX12_lawLine_142 rfl (lv_at hl 1 rfl) ?_
  refine lv_if_ne (tgt := 150) C.1 C.2.1 dX12_lawLine_143 (by decide) (fun c143 => ?_) (fun c143 => ?_)
  · replace h := ineg c143 h
    refine lv_iload_n C.1 C.2.1 dX12_lawLine_150 rfl (lv_at hl 2 rfl) ?_
    refine lv_ineg C.1 C.2.1 dX12_lawLine_151 ?_
    refine lv_iadd C.1 C.2.1 dX12_lawLine_152 ?_
    obtain ⟨σ153, e153, h⟩ := bnd h
    refine pfX12 C G X (k := 399) kd_399 16 (x := ((σ134 399 16) + (-x2))) (ty := .int) rfl rfl (Nat.le_of_ble_eq_true rfl) (by decide) k_1667 rfl rfl (by decide +kernel) rfl rfl dX12_lawLine_153 (fun H locs X => ?_)
    replace X := pu_x e153 X
    rw [← Option.some.inj h]
    exact rtV C X dX12_lawLine_156
  · replace h := ipos c143 h
    refine lv_iload_n C.1 C.2.1 dX12_lawLine_146 rfl (lv_at hl 2 rfl) ?_
    refine lv_goto (tgt := 152) C.1 C.2.1 dX12_lawLine_147 (by decide) ?_
    refine lv_iadd C.1 C.2.1 dX12_lawLine_152 ?_
    obtain ⟨σ153, e153, h⟩ := bnd h
    refine pfX12 C G X (k := 399) kd_399 16 (x := ((σ134 399 16) + x2)) (ty := .int) rfl rfl (Nat.le_of_ble_eq_true rfl) (by decide) k_1667 rfl rfl (by decide +kernel) rfl rfl dX12_lawLine_153 (fun H locs X => ?_)
    replace X := pu_x e153 X
    rw [← Option.some.inj h]
    exact rtV C X dX12_lawLine_156

set_option maxRecDepth 20000 in
theorem w_X12_lawLine_129 {r : Mem} {σ : Mem} {x1 : Int32} {x2 : Int32} {ls : Array Slot} {H : Heap} {locs : List Loc} (C : Cx p s m args meth c cX12_lawLine none 4 RX12) (G : Gf E s) (X : Hx E σ s H locs) (hl : lv_has ls 4 [(0, .ref (gB E + 399)), (1, .int x1), (2, .int x2)]) (h : X12_lawLine_129 x1 x2 σ = some r) : W p l e (RM 201) s m args below meth c H locs 0 0 (QV E below args s r) (F0 m 129 ls [.ref (gB E + 399)]) := by
  rw [X12_lawLine_129] at h
  refine lv_iconst (v := 1) C.1 C.2.1 dX12_lawLine_129 (by decide) ?_
  refine lv_goto (tgt := 134) C.1 C.2.1 dX12_lawLine_130 (by decide) ?_
  exact w_X12_lawLine_134 C G X (lv_sub hl [0, 1, 2] rfl) h

set_option maxRecDepth 20000 in
theorem w_X12_lawLine_102 {r : Mem} {σ : Mem} {x1 : Int32} {x2 : Int32} {y0 : Int32} {ls : Array Slot} {H : Heap} {locs : List Loc} (C : Cx p s m args meth c cX12_lawLine none 4 RX12) (G : Gf E s) (X : Hx E σ s H locs) (hl : lv_has ls 4 [(0, .ref (gB E + 399)), (1, .int x1), (2, .int x2)]) (h : X12_lawLine_102 x1 x2 y0 σ = some r) : W p l e (RM 201) s m args below meth c H locs 0 0 (QV E below args s r) (F0 m 102 ls [.int y0]) := by
  rw [X12_lawLine_102] at h
  refine lv_istore_n (lv' := [(3, .int y0), (0, .ref (gB E + 399)), (1, .int x1), (2, .int x2)]) C.1 C.2.1 dX12_lawLine_102 rfl hl (by decide) rfl (fun ls hl => ?_)
  refine lv_aload_n C.1 C.2.1 dX12_lawLine_103 rfl (lv_at hl 1 rfl) ?_
  refine gfX12 C G X (k := 399) kd_399 12 (v := .int (σ 399 12)) rfl rfl (by decide) k_1663 rfl dX12_lawLine_104 ?_
  refine lv_iconst (v := -1) C.1 C.2.1 dX12_lawLine_107 (by decide) ?_
  refine lv_icmp_ne (tgt := 115) C.1 C.2.1 dX12_lawLine_108 (by decide) (fun c108 => ?_) (fun c108 => ?_)
  · replace h := ineg c108 h
    rw [← Option.some.inj h]
    exact rtV C X dX12_lawLine_115
  · replace h := ipos c108 h
    refine lv_iload_n C.1 C.2.1 dX12_lawLine_111 rfl (lv_at hl 0 rfl) ?_
    refine lv_if_ne (tgt := 116) C.1 C.2.1 dX12_lawLine_112 (by decide) (fun c112 => ?_) (fun c112 => ?_)
    · replace h := ineg c112 h
      refine lv_aload_n C.1 C.2.1 dX12_lawLine_116 rfl (lv_at hl 1 rfl) ?_
      refine lv_aload_n C.1 C.2.1 dX12_lawLine_117 rfl (lv_at hl 1 rfl) ?_
      refine gfX12 C G X (k := 399) kd_399 17 (v := .int (σ 399 17)) rfl rfl (by decide) k_1668 rfl dX12_lawLine_118 ?_
      refine lv_if_ne (tgt := 129) C.1 C.2.1 dX12_lawLine_121 (by decide) (fun c121 => ?_) (fun c121 => ?_)
      · replace h := ineg c121 h
        exact w_X12_lawLine_129 C G X (lv_sub hl [1, 2, 3] rfl) h
      · replace h := ipos c121 h
        refine lv_iload_n C.1 C.2.1 dX12_lawLine_124 rfl (lv_at hl 2 rfl) ?_
        refine lv_iconst (v := 2) C.1 C.2.1 dX12_lawLine_125 (by decide) ?_
        refine lv_icmp_ne (tgt := 133) C.1 C.2.1 dX12_lawLine_126 (by decide) (fun c126 => ?_) (fun c126 => ?_)
        · replace h := ineg c126 h
          refine lv_iconst (v := 0) C.1 C.2.1 dX12_lawLine_133 (by decide) ?_
          exact w_X12_lawLine_134 C G X (lv_sub hl [1, 2, 3] rfl) h
        · replace h := ipos c126 h
          exact w_X12_lawLine_129 C G X (lv_sub hl [1, 2, 3] rfl) h
    · replace h := ipos c112 h
      rw [← Option.some.inj h]
      exact rtV C X dX12_lawLine_115

set_option maxRecDepth 20000 in
theorem w_X12_lawLine_97 {r : Mem} {σ : Mem} {x1 : Int32} {x2 : Int32} {ls : Array Slot} {H : Heap} {locs : List Loc} (C : Cx p s m args meth c cX12_lawLine none 4 RX12) (G : Gf E s) (X : Hx E σ s H locs) (hl : lv_has ls 4 [(0, .ref (gB E + 399)), (1, .int x1), (2, .int x2)]) (h : X12_lawLine_97 x1 x2 σ = some r) : W p l e (RM 201) s m args below meth c H locs 0 0 (QV E below args s r) (F0 m 97 ls []) := by
  rw [X12_lawLine_97] at h
  refine lv_iconst (v := 1) C.1 C.2.1 dX12_lawLine_97 (by decide) ?_
  refine lv_goto (tgt := 102) C.1 C.2.1 dX12_lawLine_98 (by decide) ?_
  exact w_X12_lawLine_102 C G X (lv_sub hl [0, 1, 2] rfl) h

set_option maxRecDepth 20000 in
theorem w_X12_lawLine_71 {r : Mem} {σ : Mem} {x1 : Int32} {y0 : Int32} {ls : Array Slot} {H : Heap} {locs : List Loc} (C : Cx p s m args meth c cX12_lawLine none 4 RX12) (G : Gf E s) (X : Hx E σ s H locs) (hl : lv_has ls 4 [(0, .ref (gB E + 399)), (1, .int x1)]) (h : X12_lawLine_71 x1 y0 σ = some r) : W p l e (RM 201) s m args below meth c H locs 0 0 (QV E below args s r) (F0 m 71 ls [.int y0]) := by
  rw [X12_lawLine_71] at h
  refine lv_istore_n (lv' := [(2, .int y0), (0, .ref (gB E + 399)), (1, .int x1)]) C.1 C.2.1 dX12_lawLine_71 rfl hl (by decide) rfl (fun ls hl => ?_)
  refine lv_aload_n C.1 C.2.1 dX12_lawLine_72 rfl (lv_at hl 1 rfl) ?_
  refine gfX12 C G X (k := 399) kd_399 12 (v := .int (σ 399 12)) rfl rfl (by decide) k_1663 rfl dX12_lawLine_73 ?_
  refine lv_iconst (v := -1) C.1 C.2.1 dX12_lawLine_76 (by decide) ?_
  refine lv_icmp_eq (tgt := 81) C.1 C.2.1 dX12_lawLine_77 (by decide) (fun c77 => ?_) (fun c77 => ?_)
  · replace h := ipos c77 h
    refine lv_aload_n C.1 C.2.1 dX12_lawLine_81 rfl (lv_at hl 1 rfl) ?_
    refine ldS C G (i := 232) (tx := "if") (ti := 26) (by decide +kernel) dX12_lawLine_82 ?_
    obtain ⟨r84, σ84, e84, h⟩ := bnd2 h
    refine afI (r0 := r84) (σ' := σ84) X (runV C G X q_X12_has k_1771 kp_33 k_1769 (rcX12 G X kd_399) (c_X12_has l E e84) rfl hl.1 rfl (Nat.le_of_ble_eq_true rfl) ⟨Nat.le_of_ble_eq_true rfl, Nat.le_of_ble_eq_true rfl⟩ ⟨Nat.le_of_ble_eq_true rfl, Nat.le_of_ble_eq_true rfl⟩ dX12_lawLine_84) (fun H locs X => ?_)
    refine lv_if_eq (tgt := 97) C.1 C.2.1 dX12_lawLine_87 (by decide) (fun c87 => ?_) (fun c87 => ?_)
    · replace h := ipos c87 h
      exact w_X12_lawLine_97 C G X (lv_sub hl [1, 2, 0] rfl) h
    · replace h := ineg c87 h
      refine lv_aload_n C.1 C.2.1 dX12_lawLine_90 rfl (lv_at hl 1 rfl) ?_
      obtain ⟨r91, σ91, e91, h⟩ := bnd2 h
      refine afI (r0 := r91) (σ' := σ91) X (runV C G X q_X12_some k_1788 kp_36 k_1786 (rcX12 G X kd_399) (c_X12_some l E e91) rfl hl.1 rfl (Nat.le_of_ble_eq_true rfl) ⟨Nat.le_of_ble_eq_true rfl, Nat.le_of_ble_eq_true rfl⟩ ⟨Nat.le_of_ble_eq_true rfl, Nat.le_of_ble_eq_true rfl⟩ dX12_lawLine_91) (fun H locs X => ?_)
      refine lv_if_eq (tgt := 101) C.1 C.2.1 dX12_lawLine_94 (by decide) (fun c94 => ?_) (fun c94 => ?_)
      · replace h := ipos c94 h
        refine lv_iconst (v := 0) C.1 C.2.1 dX12_lawLine_101 (by decide) ?_
        exact w_X12_lawLine_102 C G X (lv_sub hl [1, 2, 0] rfl) h
      · replace h := ineg c94 h
        exact w_X12_lawLine_97 C G X (lv_sub hl [1, 2, 0] rfl) h
  · replace h := ineg c77 h
    rw [← Option.some.inj h]
    exact rtV C X dX12_lawLine_80

set_option maxRecDepth 20000 in
theorem w_X12_lawLine_40 {r : Mem} {σ : Mem} {y0 : Int32} {ls : Array Slot} {H : Heap} {locs : List Loc} (C : Cx p s m args meth c cX12_lawLine none 4 RX12) (G : Gf E s) (X : Hx E σ s H locs) (hl : lv_has ls 4 [(0, .ref (gB E + 399))]) (h : X12_lawLine_40 y0 σ = some r) : W p l e (RM 201) s m args below meth c H locs 0 0 (QV E below args s r) (F0 m 40 ls [.int y0]) := by
  rw [X12_lawLine_40] at h
  refine lv_istore_n (lv' := [(1, .int y0), (0, .ref (gB E + 399))]) C.1 C.2.1 dX12_lawLine_40 rfl hl (by decide) rfl (fun ls hl => ?_)
  refine lv_iload_n C.1 C.2.1 dX12_lawLine_41 rfl (lv_at hl 0 rfl) ?_
  refine lv_iconst (v := -1) C.1 C.2.1 dX12_lawLine_42 (by decide) ?_
  refine lv_icmp_ne (tgt := 55) C.1 C.2.1 dX12_lawLine_43 (by decide) (fun c43 => ?_) (fun c43 => ?_)
  · replace h := ineg c43 h
    refine lv_iload_n C.1 C.2.1 dX12_lawLine_55 rfl (lv_at hl 0 rfl) ?_
    refine lv_iconst (v := 2) C.1 C.2.1 dX12_lawLine_56 (by decide) ?_
    refine lv_icmp_ne (tgt := 64) C.1 C.2.1 dX12_lawLine_57 (by decide) (fun c57 => ?_) (fun c57 => ?_)
    · replace h := ineg c57 h
      refine lv_aload_n C.1 C.2.1 dX12_lawLine_64 rfl (lv_at hl 1 rfl) ?_
      refine lv_iconst (v := 0) C.1 C.2.1 dX12_lawLine_65 (by decide) ?_
      refine lv_bipush (v := 20) C.1 C.2.1 dX12_lawLine_66 (by decide) ?_
      obtain ⟨r68, σ68, e68, h⟩ := bnd2 h
      refine afI (r0 := r68) (σ' := σ68) X (runV C G X q_X12_figures k_1779 kp_34 k_1777 (rcX12 G X kd_399) (c_X12_figures l E e68) rfl hl.1 rfl (Nat.le_of_ble_eq_true rfl) ⟨Nat.le_of_ble_eq_true rfl, Nat.le_of_ble_eq_true rfl⟩ ⟨Nat.le_of_ble_eq_true rfl, Nat.le_of_ble_eq_true rfl⟩ dX12_lawLine_68) (fun H locs X => ?_)
      exact w_X12_lawLine_71 C G X (lv_sub hl [1, 0] rfl) h
    · replace h := ipos c57 h
      refine lv_iconst (v := 0) C.1 C.2.1 dX12_lawLine_60 (by decide) ?_
      refine lv_goto (tgt := 71) C.1 C.2.1 dX12_lawLine_61 (by decide) ?_
      exact w_X12_lawLine_71 C G X (lv_sub hl [1, 0] rfl) h
  · replace h := ipos c43 h
    refine lv_aload_n C.1 C.2.1 dX12_lawLine_46 rfl (lv_at hl 1 rfl) ?_
    refine lv_aload_n C.1 C.2.1 dX12_lawLine_47 rfl (lv_at hl 1 rfl) ?_
    refine gfX12 C G X (k := 399) kd_399 11 (v := .int (σ 399 11)) rfl rfl (by decide) k_1662 rfl dX12_lawLine_48 ?_
    obtain ⟨σ51, e51, h⟩ := bnd h
    refine afV X (runV C G X q_X12_wrong k_1762 kp_31 k_1760 (rcX12 G X kd_399) (c_X12_wrong l E e51) rfl hl.1 rfl (Nat.le_of_ble_eq_true rfl) ⟨Nat.le_of_ble_eq_true rfl, Nat.le_of_ble_eq_true rfl⟩ ⟨Nat.le_of_ble_eq_true rfl, Nat.le_of_ble_eq_true rfl⟩ dX12_lawLine_51) (fun H locs X => ?_)
    rw [← Option.some.inj h]
    exact rtV C X dX12_lawLine_54

set_option maxRecDepth 20000 in
theorem w_X12_lawLine {r : Mem} {σ : Mem} {ls : Array Slot} {H : Heap} {locs : List Loc} (C : Cx p s m args meth c cX12_lawLine none 4 RX12) (G : Gf E s) (X : Hx E σ s H locs) (hl : lv_has ls 4 [(0, .ref (gB E + 399))]) (h : X12_lawLine σ = some r) : W p l e (RM 201) s m args below meth c H locs 0 0 (QV E below args s r) (F0 m 0 ls []) := by
  rw [X12_lawLine] at h
  refine lv_aload_n C.1 C.2.1 dX12_lawLine_0 rfl (lv_at hl 0 rfl) ?_
  refine ldS C G (i := 226) (tx := "kind") (ti := 23) (by decide +kernel) dX12_lawLine_1 ?_
  obtain ⟨r3, σ3, e3, h⟩ := bnd2 h
  refine afI (r0 := r3) (σ' := σ3) X (runV C G X q_X12_has k_1771 kp_33 k_1769 (rcX12 G X kd_399) (c_X12_has l E e3) rfl hl.1 rfl (Nat.le_of_ble_eq_true rfl) ⟨Nat.le_of_ble_eq_true rfl, Nat.le_of_ble_eq_true rfl⟩ ⟨Nat.le_of_ble_eq_true rfl, Nat.le_of_ble_eq_true rfl⟩ dX12_lawLine_3) (fun H locs X => ?_)
  refine lv_if_eq (tgt := 13) C.1 C.2.1 dX12_lawLine_6 (by decide) (fun c6 => ?_) (fun c6 => ?_)
  · replace h := ipos c6 h
    refine lv_aload_n C.1 C.2.1 dX12_lawLine_13 rfl (lv_at hl 0 rfl) ?_
    refine ldS C G (i := 228) (tx := "cold") (ti := 24) (by decide +kernel) dX12_lawLine_14 ?_
    obtain ⟨r16, σ16, e16, h⟩ := bnd2 h
    refine afI (r0 := r16) (σ' := σ16) X (runV C G X q_X12_has k_1771 kp_33 k_1769 (rcX12 G X kd_399) (c_X12_has l E e16) rfl hl.1 rfl (Nat.le_of_ble_eq_true rfl) ⟨Nat.le_of_ble_eq_true rfl, Nat.le_of_ble_eq_true rfl⟩ ⟨Nat.le_of_ble_eq_true rfl, Nat.le_of_ble_eq_true rfl⟩ dX12_lawLine_16) (fun H locs X => ?_)
    refine lv_if_eq (tgt := 26) C.1 C.2.1 dX12_lawLine_19 (by decide) (fun c19 => ?_) (fun c19 => ?_)
    · replace h := ipos c19 h
      refine lv_aload_n C.1 C.2.1 dX12_lawLine_26 rfl (lv_at hl 0 rfl) ?_
      refine ldS C G (i := 230) (tx := "pass") (ti := 25) (by decide +kernel) dX12_lawLine_27 ?_
      obtain ⟨r29, σ29, e29, h⟩ := bnd2 h
      refine afI (r0 := r29) (σ' := σ29) X (runV C G X q_X12_has k_1771 kp_33 k_1769 (rcX12 G X kd_399) (c_X12_has l E e29) rfl hl.1 rfl (Nat.le_of_ble_eq_true rfl) ⟨Nat.le_of_ble_eq_true rfl, Nat.le_of_ble_eq_true rfl⟩ ⟨Nat.le_of_ble_eq_true rfl, Nat.le_of_ble_eq_true rfl⟩ dX12_lawLine_29) (fun H locs X => ?_)
      refine lv_if_eq (tgt := 39) C.1 C.2.1 dX12_lawLine_32 (by decide) (fun c32 => ?_) (fun c32 => ?_)
      · replace h := ipos c32 h
        refine lv_iconst (v := -1) C.1 C.2.1 dX12_lawLine_39 (by decide) ?_
        exact w_X12_lawLine_40 C G X (lv_sub hl [0] rfl) h
      · replace h := ineg c32 h
        refine lv_iconst (v := 2) C.1 C.2.1 dX12_lawLine_35 (by decide) ?_
        refine lv_goto (tgt := 40) C.1 C.2.1 dX12_lawLine_36 (by decide) ?_
        exact w_X12_lawLine_40 C G X (lv_sub hl [0] rfl) h
    · replace h := ineg c19 h
      refine lv_iconst (v := 1) C.1 C.2.1 dX12_lawLine_22 (by decide) ?_
      refine lv_goto (tgt := 40) C.1 C.2.1 dX12_lawLine_23 (by decide) ?_
      exact w_X12_lawLine_40 C G X (lv_sub hl [0] rfl) h
  · replace h := ineg c6 h
    refine lv_iconst (v := 0) C.1 C.2.1 dX12_lawLine_9 (by decide) ?_
    refine lv_goto (tgt := 40) C.1 C.2.1 dX12_lawLine_10 (by decide) ?_
    exact w_X12_lawLine_40 C G X (lv_sub hl [0] rfl) h

theorem c_X12_lawLine (l : Launch) (E : GE) {σ : Mem} {r : Mem} (h : X12_lawLine σ = some r) : CtV l E yX12_lawLine cX12_lawLine 4 201 [.ref (gB E + 399)] σ r := by
  refine Met.ofW (cc := cX12_lawLine) (maxL := 4) (ret := none) (by decide) rfl ?_
  intro p e s m args below meth c s₁ B hml hv
  obtain ⟨rfl, G, X⟩ := start hv
  have C := cxof B hml
  have hl := lv_entry [.ref (gB E + 399)] (n := 4) (Nat.le_of_ble_eq_true rfl)
  rw [lg_entry_eq]
  generalize (lg_sl [.ref (gB E + 399)] ++ List.replicate (4 - (lg_sl [.ref (gB E + 399)]).length) Slot.unset).toArray = ls at hl ⊢
  exact w_X12_lawLine C G X hl h

end WALK

def X12_odds_136 (rc69 : Int32 → Int32 → Int64 → Int64 → Int32 → Mem → Option (Int32 × Mem)) (rc96 : Int32 → Int32 → Int64 → Int64 → Int32 → Int64 → Int32 → Mem → Option (Int32 × Mem)) (x1 : Int32) (x2 : Int32) (j3 : Int64) (j5 : Int64) (x7 : Int32) (x10 : Int32) (k0 : Int64) (k1 : Int64) (σ : Mem) : Option (Int32 × Mem) :=
  rc96 x1 x2 j3 j5 x7 (k0 * k1) (x10 + 1) σ
def X12_odds_96 (rc69 : Int32 → Int32 → Int64 → Int64 → Int32 → Mem → Option (Int32 × Mem)) : Nat → Int32 → Int32 → Int64 → Int64 → Int32 → Int64 → Int32 → Mem → Option (Int32 × Mem)
  | 0, _, _, _, _, _, _, _, _ => none
  | f + 1, x1, x2, j3, j5, x7, j8, x10, σ =>
    if x1 ≤ x10 then
      rc69 x1 x2 (j3 + j8) j5 (x7 + 1) σ
    else
      bd (X12_isOf σ x7 x10) fun r108 =>
      if r108 = 0 then
        bd (ag σ 400 (7 : Int32)) fun r133 =>
        X12_odds_136 rc69 (X12_odds_96 rc69 f) x1 x2 j3 j5 x7 x10 j8 (((100 : Int32) - r133).toInt64) σ
      else
        bd (ag σ 400 (7 : Int32)) fun r120 =>
        X12_odds_136 rc69 (X12_odds_96 rc69 f) x1 x2 j3 j5 x7 x10 j8 r120.toInt64 σ
def X12_odds_91 (rc69 : Int32 → Int32 → Int64 → Int64 → Int32 → Mem → Option (Int32 × Mem)) (x1 : Int32) (x2 : Int32) (j3 : Int64) (j5 : Int64) (x7 : Int32) (k0 : Int64) (σ : Mem) : Option (Int32 × Mem) :=
  X12_odds_96 rc69 FU x1 x2 j3 j5 x7 k0 (0 : Int32) σ
def X12_odds_69 : Nat → Int32 → Int32 → Int64 → Int64 → Int32 → Mem → Option (Int32 × Mem)
  | 0, _, _, _, _, _, _ => none
  | f + 1, x1, x2, j3, j5, x7, σ =>
    if ((1 : Int32) <<< (x1 &&& 31)) ≤ x7 then
      bd (gzl j5) fun _ =>
      some ((((10000 : Int64) * j3) / j5).toInt32, σ)
    else
      bd (X12_bits σ x7) fun r79 =>
      if x2 ≤ r79 then
        X12_odds_91 (X12_odds_69 f) x1 x2 j3 j5 x7 (1 : Int64) σ
      else
        X12_odds_91 (X12_odds_69 f) x1 x2 j3 j5 x7 (0 : Int64) σ
def X12_odds_46 : Nat → Int32 → Int32 → Int64 → Int64 → Int32 → Mem → Option (Int32 × Mem)
  | 0, _, _, _, _, _, _ => none
  | f + 1, x1, x2, j3, j5, x7, σ =>
    if x1 ≤ x7 then
      X12_odds_69 FU x1 x2 j3 j5 (0 : Int32) σ
    else
      X12_odds_46 f x1 x2 j3 (j5 * (100 : Int64)) (x7 + 1) σ
def X12_odds_26 (x1 : Int32) (x2 : Int32) (y1 : Int32) (σ : Mem) : Option (Int32 × Mem) :=
  bd (pu σ 399 0 y1) fun σ26 =>
  if (σ26 399 0) ≤ 0 then
    X12_odds_46 FU x1 x2 (0 : Int64) (1 : Int64) (0 : Int32) σ26
  else
    some ((0 : Int32), σ26)
def X12_odds_21 (x1 : Int32) (x2 : Int32) (σ : Mem) : Option (Int32 × Mem) :=
  X12_odds_26 x1 x2 (1 : Int32) σ
def X12_odds (x1 : Int32) (x2 : Int32) (σ : Mem) : Option (Int32 × Mem) :=
  bd (X12_isIn σ x1 (0 : Int32) (6 : Int32)) fun r5 =>
  if r5 = 0 then
    X12_odds_21 x1 x2 σ
  else
    bd (X12_isIn σ x2 (0 : Int32) (6 : Int32)) fun r15 =>
    if r15 = 0 then
      X12_odds_21 x1 x2 σ
    else
      X12_odds_26 x1 x2 (0 : Int32) σ
def X12_bright (σ : Mem) : Option (Int32 × Mem) :=
  bd (pu σ 399 0 (0 : Int32)) fun σ2 =>
  bd (X12_burning σ2) fun r6 =>
  some (r6, σ2)
def X12_gloom_39 (rc9 : Int32 → Int32 → Mem → Option (Int32 × Mem)) (x2 : Int32) (σ : Mem) : Option (Int32 × Mem) :=
  rc9 x2 (x2 + 1) σ
def X12_gloom_9 : Nat → Int32 → Int32 → Mem → Option (Int32 × Mem)
  | 0, _, _, _ => none
  | f + 1, x1, x2, σ =>
    bd (ag σ 400 (3 : Int32)) fun r15 =>
    if r15 ≤ x2 then
      some (x1, σ)
    else
      if x1 = (-1 : Int32) then
        X12_gloom_39 (X12_gloom_9 f) x2 σ
      else
        bd (X12_of σ x2 (3 : Int32)) fun r27 =>
        bd (X12_of σ x1 (3 : Int32)) fun r33 =>
        if r27 ≤ r33 then
          X12_gloom_9 f x1 (x2 + 1) σ
        else
          X12_gloom_39 (X12_gloom_9 f) x2 σ
def X12_gloom (σ : Mem) : Option (Int32 × Mem) :=
  bd (pu σ 399 0 (0 : Int32)) fun σ2 =>
  X12_gloom_9 FU (-1 : Int32) (0 : Int32) σ2
def X12_lamplighter_40 (rc9 : Int32 → Int32 → Mem → Option (Int32 × Mem)) (x1 : Int32) (x2 : Int32) (y0 : Int32) (y1 : Int32) (σ : Mem) : Option (Int32 × Mem) :=
  if y0 ≤ y1 then
    rc9 x1 (x2 + 1) σ
  else
    rc9 x2 (x2 + 1) σ
def X12_lamplighter_9 : Nat → Int32 → Int32 → Mem → Option (Int32 × Mem)
  | 0, _, _, _ => none
  | f + 1, x1, x2, σ =>
    bd (ag σ 400 (4 : Int32)) fun r15 =>
    if r15 ≤ x2 then
      some (x1, σ)
    else
      bd (X12_ofWalker σ x2 (3 : Int32)) fun r22 =>
      if x1 = (-1 : Int32) then
        X12_lamplighter_40 (X12_lamplighter_9 f) x1 x2 r22 (0 : Int32) σ
      else
        bd (X12_ofWalker σ x1 (3 : Int32)) fun r37 =>
        X12_lamplighter_40 (X12_lamplighter_9 f) x1 x2 r22 r37 σ
def X12_lamplighter (σ : Mem) : Option (Int32 × Mem) :=
  bd (pu σ 399 0 (0 : Int32)) fun σ2 =>
  X12_lamplighter_9 FU (-1 : Int32) (0 : Int32) σ2
def X12_spent_36 (rc9 : Int32 → Int32 → Mem → Option (Int32 × Mem)) (x2 : Int32) (y0 : Int32) (y1 : Int32) (σ : Mem) : Option (Int32 × Mem) :=
  rc9 (y0 ||| y1) (x2 + 1) σ
def X12_spent_9 : Nat → Int32 → Int32 → Mem → Option (Int32 × Mem)
  | 0, _, _, _ => none
  | f + 1, x1, x2, σ =>
    bd (ag σ 400 (4 : Int32)) fun r15 =>
    if r15 ≤ x2 then
      some (x1, σ)
    else
      bd (X12_ofWalker σ x2 (1 : Int32)) fun r23 =>
      if r23 = 0 then
        X12_spent_36 (X12_spent_9 f) x2 x1 ((1 : Int32) <<< (x2 &&& 31)) σ
      else
        X12_spent_36 (X12_spent_9 f) x2 x1 (0 : Int32) σ
def X12_spent (σ : Mem) : Option (Int32 × Mem) :=
  bd (pu σ 399 0 (0 : Int32)) fun σ2 =>
  X12_spent_9 FU (0 : Int32) (0 : Int32) σ2
def X12_crowdAt_30 (σ : Mem) (rc4 : Int32 → Int32 → Int32 → Option Int32) (x1 : Int32) (x3 : Int32) (y0 : Int32) (y1 : Int32) : Option Int32 :=
  rc4 x1 (y0 + y1) (x3 + 1)
def X12_crowdAt_4 (σ : Mem) : Nat → Int32 → Int32 → Int32 → Option Int32
  | 0, _, _, _ => none
  | f + 1, x1, x2, x3 =>
    bd (ag σ 400 (4 : Int32)) fun r10 =>
    if r10 ≤ x3 then
      some (x2)
    else
      bd (X12_ofWalker σ x3 (0 : Int32)) fun r18 =>
      if r18 = x1 then
        X12_crowdAt_30 σ (X12_crowdAt_4 σ f) x1 x3 x2 (1 : Int32)
      else
        X12_crowdAt_30 σ (X12_crowdAt_4 σ f) x1 x3 x2 (0 : Int32)
def X12_crowdAt (σ : Mem) (x1 : Int32) : Option Int32 :=
  X12_crowdAt_4 σ FU x1 (0 : Int32) (0 : Int32)
def X12_crowd_46 (rc9 : Int32 → Int32 → Mem → Option (Int32 × Mem)) (x2 : Int32) (σ : Mem) : Option (Int32 × Mem) :=
  rc9 x2 (x2 + 1) σ
def X12_crowd_9 : Nat → Int32 → Int32 → Mem → Option (Int32 × Mem)
  | 0, _, _, _ => none
  | f + 1, x1, x2, σ =>
    bd (ag σ 400 (3 : Int32)) fun r15 =>
    if r15 ≤ x2 then
      some (x1, σ)
    else
      bd (ag σ 400 (4 : Int32)) fun r24 =>
      if r24 ≤ 0 then
        some (x1, σ)
      else
        if x1 = (-1 : Int32) then
          X12_crowd_46 (X12_crowd_9 f) x2 σ
        else
          bd (X12_crowdAt σ x2) fun r35 =>
          bd (X12_crowdAt σ x1) fun r40 =>
          if r35 ≤ r40 then
            X12_crowd_9 f x1 (x2 + 1) σ
          else
            X12_crowd_46 (X12_crowd_9 f) x2 σ
def X12_crowd (σ : Mem) : Option (Int32 × Mem) :=
  bd (pu σ 399 0 (0 : Int32)) fun σ2 =>
  X12_crowd_9 FU (-1 : Int32) (0 : Int32) σ2
def X12_alike_69 (rc9 : Int32 → Int32 → Mem → Option (Int32 × Mem)) (rc23 : Int32 → Int32 → Int32 → Mem → Option (Int32 × Mem)) (x2 : Int32) (x3 : Int32) (y0 : Int32) (y1 : Int32) (σ : Mem) : Option (Int32 × Mem) :=
  rc23 (y0 + y1) x2 (x3 + 1) σ
def X12_alike_68 (rc9 : Int32 → Int32 → Mem → Option (Int32 × Mem)) (rc23 : Int32 → Int32 → Int32 → Mem → Option (Int32 × Mem)) (x2 : Int32) (x3 : Int32) (y0 : Int32) (σ : Mem) : Option (Int32 × Mem) :=
  X12_alike_69 rc9 rc23 x2 x3 y0 (0 : Int32) σ
def X12_alike_23 (rc9 : Int32 → Int32 → Mem → Option (Int32 × Mem)) : Nat → Int32 → Int32 → Int32 → Mem → Option (Int32 × Mem)
  | 0, _, _, _, _ => none
  | f + 1, x1, x2, x3, σ =>
    bd (ag σ 400 (4 : Int32)) fun r29 =>
    if r29 ≤ x3 then
      rc9 x1 (x2 + 1) σ
    else
      bd (X12_ofWalker σ x2 (1 : Int32)) fun r37 =>
      bd (X12_ofWalker σ x3 (1 : Int32)) fun r43 =>
      if r37 = r43 then
        bd (X12_ofWalker σ x2 (0 : Int32)) fun r52 =>
        bd (X12_ofWalker σ x3 (0 : Int32)) fun r58 =>
        if r52 = r58 then
          X12_alike_69 rc9 (X12_alike_23 rc9 f) x2 x3 x1 (1 : Int32) σ
        else
          X12_alike_68 rc9 (X12_alike_23 rc9 f) x2 x3 x1 σ
      else
        X12_alike_68 rc9 (X12_alike_23 rc9 f) x2 x3 x1 σ
def X12_alike_9 : Nat → Int32 → Int32 → Mem → Option (Int32 × Mem)
  | 0, _, _, _ => none
  | f + 1, x1, x2, σ =>
    bd (ag σ 400 (4 : Int32)) fun r15 =>
    if r15 ≤ x2 then
      some (x1, σ)
    else
      X12_alike_23 (X12_alike_9 f) FU x1 x2 (x2 + (1 : Int32)) σ
def X12_alike (σ : Mem) : Option (Int32 × Mem) :=
  bd (pu σ 399 0 (0 : Int32)) fun σ2 =>
  X12_alike_9 FU (0 : Int32) (0 : Int32) σ2
def X12_ahead_85 (y1 : Int32) (y2 : Int32) (σ : Mem) : Option (Int32 × Mem) :=
  bd (X12_of σ y1 y2) fun r85 =>
  bd (X12_comesBack σ) fun σ91 =>
  some (r85, σ91)
def X12_ahead_41 (x1 : Int32) (x2 : Int32) (x3 : Int32) (y1 : Int32) (σ : Mem) : Option (Int32 × Mem) :=
  bd (pu σ 399 0 y1) fun σ41 =>
  if (σ41 399 0) ≤ 0 then
    bd (X12_putsAside σ41) fun σ54 =>
    bd2 (X12_goes x2 (0 : Int32) σ54) fun r60 σ60 =>
    if x3 = 0 then
      X12_ahead_85 x1 (0 : Int32) σ60
    else
      if x3 = (1 : Int32) then
        X12_ahead_85 x1 (1 : Int32) σ60
      else
        X12_ahead_85 x1 (3 : Int32) σ60
  else
    some ((0 : Int32), σ41)
def X12_ahead (x1 : Int32) (x2 : Int32) (x3 : Int32) (σ : Mem) : Option (Int32 × Mem) :=
  bd (X12_isPane σ x1) fun r3 =>
  if r3 = 0 then
    X12_ahead_41 x1 x2 x3 (1 : Int32) σ
  else
    bd (X12_isIn σ x2 (0 : Int32) (60 : Int32)) fun r17 =>
    if r17 = 0 then
      X12_ahead_41 x1 x2 x3 (2 : Int32) σ
    else
      bd (X12_isIn σ x3 (0 : Int32) (2 : Int32)) fun r30 =>
      if r30 = 0 then
        X12_ahead_41 x1 x2 x3 (3 : Int32) σ
      else
        X12_ahead_41 x1 x2 x3 (0 : Int32) σ
def X12_trial_54 (y0 : Int32) (σ : Mem) : Option (Int32 × Mem) :=
  bd (X12_comesBack σ) fun σ57 =>
  some (y0, σ57)
def X12_trial_16 (x1 : Int32) (x2 : Int32) (y1 : Int32) (σ : Mem) : Option (Int32 × Mem) :=
  bd (pu σ 399 0 y1) fun σ16 =>
  if (σ16 399 0) ≤ 0 then
    bd (X12_putsAside σ16) fun σ29 =>
    bd2 (X12_goes x1 (1 : Int32) σ29) fun r35 σ35 =>
    if x2 = 0 then
      bd (X12_burning σ35) fun r51 =>
      X12_trial_54 r51 σ35
    else
      bd (X12_oilOfAll σ35) fun r44 =>
      X12_trial_54 r44 σ35
  else
    some ((0 : Int32), σ16)
def X12_trial (x1 : Int32) (x2 : Int32) (σ : Mem) : Option (Int32 × Mem) :=
  bd (X12_isIn σ x1 (0 : Int32) (60 : Int32)) fun r5 =>
  if r5 = 0 then
    X12_trial_16 x1 x2 (1 : Int32) σ
  else
    X12_trial_16 x1 x2 (0 : Int32) σ
def X12_span_103 (rc37 : Int32 → Int32 → Int32 → Int32 → Mem → Option (Int32 × Mem)) (x1 : Int32) (x2 : Int32) (x4 : Int32) (y0 : Int32) (σ : Mem) : Option (Int32 × Mem) :=
  rc37 x1 x2 y0 (x4 + 1) σ
def X12_span_37 : Nat → Int32 → Int32 → Int32 → Int32 → Mem → Option (Int32 × Mem)
  | 0, _, _, _, _, _ => none
  | f + 1, x1, x2, x3, x4, σ =>
    if (6 : Int32) < x4 then
      some (x3, σ)
    else
      bd (au σ 400 (10 : Int32) x4) fun σ52 =>
      bd2 (X12_goes x1 (1 : Int32) σ52) fun r56 σ56 =>
      bd (X12_burning σ56) fun r62 =>
      bd (X12_bits σ56 r62) fun r65 =>
      bd (X12_comesBack σ56) fun σ71 =>
      if x3 = (-1 : Int32) then
        X12_span_103 (X12_span_37 f) x1 x2 x4 r65 σ71
      else
        if x2 = 0 then
          bd (X12_lesser σ71 x3 r65) fun r100 =>
          X12_span_103 (X12_span_37 f) x1 x2 x4 r100 σ71
        else
          bd (X12_greater σ71 x3 r65) fun r91 =>
          X12_span_103 (X12_span_37 f) x1 x2 x4 r91 σ71
def X12_span_16 (x1 : Int32) (x2 : Int32) (y1 : Int32) (σ : Mem) : Option (Int32 × Mem) :=
  bd (pu σ 399 0 y1) fun σ16 =>
  if (σ16 399 0) ≤ 0 then
    bd (X12_putsAside σ16) fun σ29 =>
    X12_span_37 FU x1 x2 (-1 : Int32) (1 : Int32) σ29
  else
    some ((0 : Int32), σ16)
def X12_span (x1 : Int32) (x2 : Int32) (σ : Mem) : Option (Int32 × Mem) :=
  bd (X12_isIn σ x1 (0 : Int32) (60 : Int32)) fun r5 =>
  if r5 = 0 then
    X12_span_16 x1 x2 (1 : Int32) σ
  else
    X12_span_16 x1 x2 (0 : Int32) σ
def X12_logged (σ : Mem) (x1 : Int32) (x2 : Int32) : Option Int32 :=
  bd (ag σ 400 (((188 : Int32) + ((5 : Int32) * x1)) + x2)) fun r13 =>
  some (r13)
def X12_led_42 : Nat → Int32 → Int32 → Int32 → Int32 → Int32 → Mem → Option (Int32 × Mem)
  | 0, _, _, _, _, _, _ => none
  | f + 1, x1, x2, x3, x4, x5, σ =>
    if x5 < 0 then
      if x2 = 0 then
        some (x3, σ)
      else
        some (x4, σ)
    else
      bd (X12_logged σ x5 (3 : Int32)) fun r51 =>
      if r51 = x1 then
        bd (X12_logged σ x5 (0 : Int32)) fun r68 =>
        X12_led_42 f x1 x2 (x3 + 1) r68 (x5 + (-1)) σ
      else
        X12_led_42 f x1 x2 x3 x4 (x5 + (-1)) σ
def X12_led_14 (x1 : Int32) (x2 : Int32) (y1 : Int32) (σ : Mem) : Option (Int32 × Mem) :=
  bd (pu σ 399 0 y1) fun σ14 =>
  if (σ14 399 0) ≤ 0 then
    bd (ag σ14 400 (9 : Int32)) fun r37 =>
    X12_led_42 FU x1 x2 (0 : Int32) (-1 : Int32) (r37 - (1 : Int32)) σ14
  else
    some ((0 : Int32), σ14)
def X12_led (x1 : Int32) (x2 : Int32) (σ : Mem) : Option (Int32 × Mem) :=
  bd (X12_isPane σ x1) fun r3 =>
  if r3 = 0 then
    X12_led_14 x1 x2 (1 : Int32) σ
  else
    X12_led_14 x1 x2 (0 : Int32) σ
def X12_log_15 (x1 : Int32) (x2 : Int32) (y1 : Int32) (σ : Mem) : Option (Int32 × Mem) :=
  bd (pu σ 399 0 y1) fun σ15 =>
  if (σ15 399 0) ≤ 0 then
    bd (ag σ15 400 (9 : Int32)) fun r35 =>
    bd (X12_isIn σ15 x1 (0 : Int32) (r35 - (1 : Int32))) fun r38 =>
    if r38 = 0 then
      some ((-2 : Int32), σ15)
    else
      bd (X12_logged σ15 x1 x2) fun r47 =>
      some (r47, σ15)
  else
    some ((0 : Int32), σ15)
def X12_log (x1 : Int32) (x2 : Int32) (σ : Mem) : Option (Int32 × Mem) :=
  bd (X12_isIn σ x2 (0 : Int32) (4 : Int32)) fun r4 =>
  if r4 = 0 then
    X12_log_15 x1 x2 (1 : Int32) σ
  else
    X12_log_15 x1 x2 (0 : Int32) σ
def X12_seed (x1 : Int32) (σ : Mem) : Option (Int32 × Mem) :=
  bd (pu σ 399 0 (0 : Int32)) fun σ2 =>
  bd (ag σ2 400 (10 : Int32)) fun r11 =>
  bd (au σ2 400 (10 : Int32) x1) fun σ20 =>
  some (r11, σ20)
def X12_undo_26 : Nat → Int32 → Mem → Option (Int32 × Mem)
  | 0, _, _ => none
  | f + 1, x1, σ =>
    if (488 : Int32) ≤ x1 then
      bd (gb (1 : Int32)) fun _ =>
      some ((1 : Int32), σ)
    else
      bd (ag σ 403 (((488 : Int32) * (σ 399 6)) + x1)) fun r52 =>
      bd (au σ 400 x1 r52) fun σ53 =>
      X12_undo_26 f (x1 + 1) σ53
def X12_undo (σ : Mem) : Option (Int32 × Mem) :=
  bd (pu σ 399 0 (0 : Int32)) fun σ2 =>
  if (σ2 399 6) = 0 then
    bd (gb (0 : Int32)) fun _ =>
    some ((0 : Int32), σ2)
  else
    bd (pu σ2 399 6 ((σ2 399 6) - (1 : Int32))) fun σ21 =>
    X12_undo_26 FU (0 : Int32) σ21
def X12_image_7 : Nat → Int32 → Mem → Option Mem
  | 0, _, _ => none
  | f + 1, x1, σ =>
    if (888 : Int32) ≤ x1 then
      bd (gb (1 : Int32)) fun _ =>
      bd (pu σ 399 3 (1 : Int32)) fun σ34 =>
      some σ34
    else
      bd (ag σ 400 x1) fun r24 =>
      bd (au σ 401 x1 r24) fun σ25 =>
      X12_image_7 f (x1 + 1) σ25
def X12_image (σ : Mem) : Option Mem :=
  bd (pu σ 399 0 (0 : Int32)) fun σ2 =>
  X12_image_7 FU (0 : Int32) σ2
def X12_back_16 : Nat → Int32 → Mem → Option (Int32 × Mem)
  | 0, _, _ => none
  | f + 1, x1, σ =>
    if (888 : Int32) ≤ x1 then
      bd (pu σ 399 6 (0 : Int32)) fun σ43 =>
      bd (gb (1 : Int32)) fun _ =>
      some ((1 : Int32), σ43)
    else
      bd (ag σ 401 x1) fun r33 =>
      bd (au σ 400 x1 r33) fun σ34 =>
      X12_back_16 f (x1 + 1) σ34
def X12_back (σ : Mem) : Option (Int32 × Mem) :=
  bd (pu σ 399 0 (0 : Int32)) fun σ2 =>
  if (σ2 399 3) = 0 then
    bd (gb (0 : Int32)) fun _ =>
    some ((0 : Int32), σ2)
  else
    X12_back_16 FU (0 : Int32) σ2
def X12_waysOf_36 (σ : Mem) (rc4 : Int32 → Int32 → Option Int32) (rc16 : Int32 → Int32 → Int32 → Option Int32) (x2 : Int32) (x3 : Int32) (y0 : Int32) (y1 : Int32) : Option Int32 :=
  rc16 (y0 + y1) x2 (x3 + 1)
def X12_waysOf_16 (σ : Mem) (rc4 : Int32 → Int32 → Option Int32) : Nat → Int32 → Int32 → Int32 → Option Int32
  | 0, _, _, _ => none
  | f + 1, x1, x2, x3 =>
    if x2 ≤ x3 then
      rc4 x1 (x2 + 1)
    else
      bd (X12_isWay σ x2 x3) fun r25 =>
      if r25 = 0 then
        X12_waysOf_36 σ rc4 (X12_waysOf_16 σ rc4 f) x2 x3 x1 (0 : Int32)
      else
        X12_waysOf_36 σ rc4 (X12_waysOf_16 σ rc4 f) x2 x3 x1 (1 : Int32)
def X12_waysOf_4 (σ : Mem) : Nat → Int32 → Int32 → Option Int32
  | 0, _, _ => none
  | f + 1, x1, x2 =>
    bd (ag σ 400 (3 : Int32)) fun r10 =>
    if r10 ≤ x2 then
      some (x1)
    else
      X12_waysOf_16 σ (X12_waysOf_4 σ f) FU x1 x2 (0 : Int32)
def X12_waysOf (σ : Mem) : Option Int32 :=
  X12_waysOf_4 σ FU (0 : Int32) (0 : Int32)
def X12_count (x1 : Int32) (σ : Mem) : Option (Int32 × Mem) :=
  bd (pu σ 399 0 (0 : Int32)) fun σ2 =>
  if x1 = 0 then
    bd (ag σ2 400 (3 : Int32)) fun r14 =>
    some (r14, σ2)
  else
    if x1 = (1 : Int32) then
      bd (ag σ2 400 (4 : Int32)) fun r26 =>
      some (r26, σ2)
    else
      if x1 = (2 : Int32) then
        bd (ag σ2 400 (0 : Int32)) fun r38 =>
        some (r38, σ2)
      else
        if x1 = (3 : Int32) then
          bd (ag σ2 400 (1 : Int32)) fun r50 =>
          some (r50, σ2)
        else
          bd (X12_isIn σ2 x1 (4 : Int32) (7 : Int32)) fun r56 =>
          if r56 = 0 then
            if x1 = (8 : Int32) then
              bd (X12_oilOfAll σ2) fun r80 =>
              some (r80, σ2)
            else
              if x1 = (9 : Int32) then
                bd (X12_litOfAll σ2) fun r91 =>
                some (r91, σ2)
              else
                if x1 = (10 : Int32) then
                  bd (X12_waysOf σ2) fun r102 =>
                  some (r102, σ2)
                else
                  if x1 = (11 : Int32) then
                    bd (ag σ2 400 (9 : Int32)) fun r118 =>
                    some (r118, σ2)
                  else
                    if x1 = (12 : Int32) then
                      some ((σ2 399 6), σ2)
                    else
                      some ((-1 : Int32), σ2)
          else
            bd (ag σ2 400 (((5 : Int32) + x1) - (4 : Int32))) fun r71 =>
            some (r71, σ2)
section WALK
variable {p : Program} {l : Launch} {e : Env} {s : State} {m : MethodId} {args : Array Value} {below : List Frame} {meth : Method} {c : Code} {E : GE}
set_option maxRecDepth 20000 in
theorem w_X12_odds_136 {r : (Int32 × Mem)} {σ : Mem} {rc69 : Int32 → Int32 → Int64 → Int64 → Int32 → Mem → Option (Int32 × Mem)} {rc96 : Int32 → Int32 → Int64 → Int64 → Int32 → Int64 → Int32 → Mem → Option (Int32 × Mem)} {x1 : Int32} {x2 : Int32} {j3 : Int64} {j5 : Int64} {x7 : Int32} {x10 : Int32} {k0 : Int64} {k1 : Int64} {ls : Array Slot} {H : Heap} {locs : List Loc} (C : Cx p s m args meth c cX12_odds (some .int) 11 RX12) (G : Gf E s) (hr69 : ∀ {x1 : Int32} {x2 : Int32} {j3 : Int64} {j5 : Int64} {x7 : Int32} {σ : Mem} {ls : Array Slot} {H : Heap} {locs : List Loc}, Hx E σ s H locs → lv_has ls 11 [(0, .ref (gB E + 399)), (1, .int x1), (2, .int x2), (3, .long j3), (5, .long j5), (7, .int x7)] → rc69 x1 x2 j3 j5 x7 σ = some r → W p l e (RM 2) s m args below meth c H locs 0 0 (QI E below args s r.1 r.2) (F0 m 69 ls [])) (hr96 : ∀ {x1 : Int32} {x2 : Int32} {j3 : Int64} {j5 : Int64} {x7 : Int32} {j8 : Int64} {x10 : Int32} {σ : Mem} {ls : Array Slot} {H : Heap} {locs : List Loc}, Hx E σ s H locs → lv_has ls 11 [(0, .ref (gB E + 399)), (1, .int x1), (2, .int x2), (3, .long j3), (5, .long j5), (7, .int x7), (8, .long j8), (10, .int x10)] → rc96 x1 x2 j3 j5 x7 j8 x10 σ = some r → W p l e (RM 2) s m args below meth c H locs 0 0 (QI E below args s r.1 r.2) (F0 m 96 ls [])) (X : Hx E σ s H locs) (hl : lv_has ls 11 [(0, .ref (gB E + 399)), (1, .int x1), (2, .int x2), (3, .long j3), (5, .long j5), (7, .int x7), (10, .int x10)]) (h : X12_odds_136 rc69 rc96 x1 x2 j3 j5 x7 x10 k0 k1 σ = some r) : W p l e (RM 2) s m args below meth c H locs 0 0 (QI E below args s r.1 r.2) (F0 m 136 ls [.long k1, .long k0]) := by
  rw [X12_odds_136] at h
  refine lv_lmul C.1 C.2.1 dX12_odds_136 ?_
  refine lv_lstore (lv' := [(8, .long (k0 * k1)), (0, .ref (gB E + 399)), (1, .int x1), (2, .int x2), (3, .long j3), (5, .long j5), (7, .int x7), (10, .int x10)]) C.1 C.2.1 dX12_odds_137 hl (by decide) rfl (fun ls hl => ?_)
  refine lv_iinc (v := (x10 + 1)) (lv' := [(10, .int (x10 + 1)), (8, .long (k0 * k1)), (0, .ref (gB E + 399)), (1, .int x1), (2, .int x2), (3, .long j3), (5, .long j5), (7, .int x7)]) C.1 C.2.1 dX12_odds_139 hl (k := 7) rfl rfl (by decide) rfl (fun ls hl => ?_)
  refine lv_goto (tgt := 96) C.1 C.2.1 dX12_odds_142 (by decide) ?_
  exact hr96 X (lv_sub hl [2, 3, 4, 5, 6, 7, 1, 0] rfl) h

set_option maxRecDepth 20000 in
theorem w_X12_odds_96 {r : (Int32 × Mem)} {rc69 : Int32 → Int32 → Int64 → Int64 → Int32 → Mem → Option (Int32 × Mem)} (C : Cx p s m args meth c cX12_odds (some .int) 11 RX12) (G : Gf E s) (hr69 : ∀ {x1 : Int32} {x2 : Int32} {j3 : Int64} {j5 : Int64} {x7 : Int32} {σ : Mem} {ls : Array Slot} {H : Heap} {locs : List Loc}, Hx E σ s H locs → lv_has ls 11 [(0, .ref (gB E + 399)), (1, .int x1), (2, .int x2), (3, .long j3), (5, .long j5), (7, .int x7)] → rc69 x1 x2 j3 j5 x7 σ = some r → W p l e (RM 2) s m args below meth c H locs 0 0 (QI E below args s r.1 r.2) (F0 m 69 ls [])) : ∀ (f : Nat) {x1 : Int32} {x2 : Int32} {j3 : Int64} {j5 : Int64} {x7 : Int32} {j8 : Int64} {x10 : Int32} {σ : Mem} {ls : Array Slot} {H : Heap} {locs : List Loc}, Hx E σ s H locs → lv_has ls 11 [(0, .ref (gB E + 399)), (1, .int x1), (2, .int x2), (3, .long j3), (5, .long j5), (7, .int x7), (8, .long j8), (10, .int x10)] → X12_odds_96 rc69 f x1 x2 j3 j5 x7 j8 x10 σ = some r → W p l e (RM 2) s m args below meth c H locs 0 0 (QI E below args s r.1 r.2) (F0 m 96 ls []) := by
  intro f
  induction f with
  | zero =>
    intro x1 x2 j3 j5 x7 j8 x10 σ ls H locs X hl h
    rw [X12_odds_96] at h
    cases h
  | succ f ih =>
    intro x1 x2 j3 j5 x7 j8 x10 σ ls H locs X hl h
    rw [X12_odds_96] at h
    refine lv_iload C.1 C.2.1 dX12_odds_96 (lv_at hl 7 rfl) ?_
    refine lv_iload_n C.1 C.2.1 dX12_odds_98 rfl (lv_at hl 1 rfl) ?_
    refine lv_icmp_ge (tgt := 145) C.1 C.2.1 dX12_odds_99 (by decide) (fun c99 => ?_) (fun c99 => ?_)
    · replace h := ipos c99 h
      refine lv_lload_n C.1 C.2.1 dX12_odds_145 rfl (lv_at hl 3 rfl) ?_
      refine lv_lload C.1 C.2.1 dX12_odds_146 (lv_at hl 6 rfl) ?_
      refine lv_ladd C.1 C.2.1 dX12_odds_148 ?_
      refine lv_lstore_n (lv' := [(3, .long (j3 + j8)), (0, .ref (gB E + 399)), (1, .int x1), (2, .int x2), (5, .long j5), (7, .int x7), (8, .long j8), (10, .int x10)]) C.1 C.2.1 dX12_odds_149 rfl hl (by decide) rfl (fun ls hl => ?_)
      refine lv_iinc (v := (x7 + 1)) (lv' := [(7, .int (x7 + 1)), (3, .long (j3 + j8)), (0, .ref (gB E + 399)), (1, .int x1), (2, .int x2), (5, .long j5), (8, .long j8), (10, .int x10)]) C.1 C.2.1 dX12_odds_150 hl (k := 5) rfl rfl (by decide) rfl (fun ls hl => ?_)
      refine lv_goto (tgt := 69) C.1 C.2.1 dX12_odds_153 (by decide) ?_
      exact hr69 X (lv_sub hl [2, 3, 4, 1, 5, 0] rfl) h
    · replace h := ineg c99 h
      refine lv_lload C.1 C.2.1 dX12_odds_102 (lv_at hl 6 rfl) ?_
      refine lv_iload C.1 C.2.1 dX12_odds_104 (lv_at hl 5 rfl) ?_
      refine lv_iload C.1 C.2.1 dX12_odds_106 (lv_at hl 7 rfl) ?_
      obtain ⟨r108, e108, h⟩ := bnd h
      refine afI X (runS C G X q_X12_isOf k_1943 k_1942 (c_X12_isOf l E e108) rfl hl.1 rfl (Nat.le_of_ble_eq_true rfl) ⟨Nat.le_of_ble_eq_true rfl, Nat.le_of_ble_eq_true rfl⟩ ⟨Nat.le_of_ble_eq_true rfl, Nat.le_of_ble_eq_true rfl⟩ dX12_odds_108) (fun H locs X => ?_)
      refine lv_if_eq (tgt := 125) C.1 C.2.1 dX12_odds_111 (by decide) (fun c111 => ?_) (fun c111 => ?_)
      · replace h := ipos c111 h
        refine lv_bipush (v := 100) C.1 C.2.1 dX12_odds_125 (by decide) ?_
        refine lv_aload_n C.1 C.2.1 dX12_odds_127 rfl (lv_at hl 0 rfl) ?_
        refine gfX12 C G X (k := 399) kd_399 1 (v := .ref (gB E + 400)) rfl rfl (by decide) k_1652 rfl dX12_odds_128 ?_
        refine lv_bipush (v := 7) C.1 C.2.1 dX12_odds_131 (by decide) ?_
        obtain ⟨r133, e133, h⟩ := bnd h
        refine ald C G X (k := 400) kd_400 (ag_s e133).1 dX12_odds_133 ?_
        rw [(ag_s e133).2]
        refine lv_isub C.1 C.2.1 dX12_odds_134 ?_
        refine lv_i2l C.1 C.2.1 dX12_odds_135 rfl ?_
        exact w_X12_odds_136 C G hr69 ih X (lv_sub hl [0, 1, 2, 3, 4, 5, 7] rfl) h
      · replace h := ineg c111 h
        refine lv_aload_n C.1 C.2.1 dX12_odds_114 rfl (lv_at hl 0 rfl) ?_
        refine gfX12 C G X (k := 399) kd_399 1 (v := .ref (gB E + 400)) rfl rfl (by decide) k_1652 rfl dX12_odds_115 ?_
        refine lv_bipush (v := 7) C.1 C.2.1 dX12_odds_118 (by decide) ?_
        obtain ⟨r120, e120, h⟩ := bnd h
        refine ald C G X (k := 400) kd_400 (ag_s e120).1 dX12_odds_120 ?_
        rw [(ag_s e120).2]
        refine lv_i2l C.1 C.2.1 dX12_odds_121 rfl ?_
        refine lv_goto (tgt := 136) C.1 C.2.1 dX12_odds_122 (by decide) ?_
        exact w_X12_odds_136 C G hr69 ih X (lv_sub hl [0, 1, 2, 3, 4, 5, 7] rfl) h

set_option maxRecDepth 20000 in
theorem w_X12_odds_91 {r : (Int32 × Mem)} {σ : Mem} {rc69 : Int32 → Int32 → Int64 → Int64 → Int32 → Mem → Option (Int32 × Mem)} {x1 : Int32} {x2 : Int32} {j3 : Int64} {j5 : Int64} {x7 : Int32} {k0 : Int64} {ls : Array Slot} {H : Heap} {locs : List Loc} (C : Cx p s m args meth c cX12_odds (some .int) 11 RX12) (G : Gf E s) (hr69 : ∀ {x1 : Int32} {x2 : Int32} {j3 : Int64} {j5 : Int64} {x7 : Int32} {σ : Mem} {ls : Array Slot} {H : Heap} {locs : List Loc}, Hx E σ s H locs → lv_has ls 11 [(0, .ref (gB E + 399)), (1, .int x1), (2, .int x2), (3, .long j3), (5, .long j5), (7, .int x7)] → rc69 x1 x2 j3 j5 x7 σ = some r → W p l e (RM 2) s m args below meth c H locs 0 0 (QI E below args s r.1 r.2) (F0 m 69 ls [])) (X : Hx E σ s H locs) (hl : lv_has ls 11 [(0, .ref (gB E + 399)), (1, .int x1), (2, .int x2), (3, .long j3), (5, .long j5), (7, .int x7)]) (h : X12_odds_91 rc69 x1 x2 j3 j5 x7 k0 σ = some r) : W p l e (RM 2) s m args below meth c H locs 0 0 (QI E below args s r.1 r.2) (F0 m 91 ls [.long k0]) := by
  rw [X12_odds_91] at h
  refine lv_lstore (lv' := [(8, .long k0), (0, .ref (gB E + 399)), (1, .int x1), (2, .int x2), (3, .long j3), (5, .long j5), (7, .int x7)]) C.1 C.2.1 dX12_odds_91 hl (by decide) rfl (fun ls hl => ?_)
  refine lv_iconst (v := 0) C.1 C.2.1 dX12_odds_93 (by decide) ?_
  refine lv_istore (lv' := [(10, .int (0 : Int32)), (8, .long k0), (0, .ref (gB E + 399)), (1, .int x1), (2, .int x2), (3, .long j3), (5, .long j5), (7, .int x7)]) C.1 C.2.1 dX12_odds_94 hl (by decide) rfl (fun ls hl => ?_)
  exact w_X12_odds_96 C G hr69 FU X (lv_sub hl [2, 3, 4, 5, 6, 7, 1, 0] rfl) h

set_option maxRecDepth 20000 in
theorem w_X12_odds_69 {r : (Int32 × Mem)} (C : Cx p s m args meth c cX12_odds (some .int) 11 RX12) (G : Gf E s) : ∀ (f : Nat) {x1 : Int32} {x2 : Int32} {j3 : Int64} {j5 : Int64} {x7 : Int32} {σ : Mem} {ls : Array Slot} {H : Heap} {locs : List Loc}, Hx E σ s H locs → lv_has ls 11 [(0, .ref (gB E + 399)), (1, .int x1), (2, .int x2), (3, .long j3), (5, .long j5), (7, .int x7)] → X12_odds_69 f x1 x2 j3 j5 x7 σ = some r → W p l e (RM 2) s m args below meth c H locs 0 0 (QI E below args s r.1 r.2) (F0 m 69 ls []) := by
  intro f
  induction f with
  | zero =>
    intro x1 x2 j3 j5 x7 σ ls H locs X hl h
    rw [X12_odds_69] at h
    cases h
  | succ f ih =>
    intro x1 x2 j3 j5 x7 σ ls H locs X hl h
    rw [X12_odds_69] at h
    refine lv_iload C.1 C.2.1 dX12_odds_69 (lv_at hl 5 rfl) ?_
    refine lv_iconst (v := 1) C.1 C.2.1 dX12_odds_71 (by decide) ?_
    refine lv_iload_n C.1 C.2.1 dX12_odds_72 rfl (lv_at hl 1 rfl) ?_
    refine lv_ishl C.1 C.2.1 dX12_odds_73 ?_
    refine lv_icmp_ge (tgt := 156) C.1 C.2.1 dX12_odds_74 (by decide) (fun c74 => ?_) (fun c74 => ?_)
    · replace h := ipos c74 h
      refine lv_ldc2 C.1 C.2.1 C.hown (C.ts _ k_2215) dX12_odds_156 ?_
      refine lv_lload_n C.1 C.2.1 dX12_odds_159 rfl (lv_at hl 3 rfl) ?_
      refine lv_lmul C.1 C.2.1 dX12_odds_160 ?_
      refine lv_lload C.1 C.2.1 dX12_odds_161 (lv_at hl 4 rfl) ?_
      obtain ⟨u163, z163, h⟩ := bnd h
      refine lv_ldiv C.1 C.2.1 dX12_odds_163 (gzl_s z163) ?_
      refine lv_l2i C.1 C.2.1 dX12_odds_164 rfl ?_
      rw [← Option.some.inj h]
      exact rtI C X dX12_odds_165
    · replace h := ineg c74 h
      refine lv_iload C.1 C.2.1 dX12_odds_77 (lv_at hl 5 rfl) ?_
      obtain ⟨r79, e79, h⟩ := bnd h
      refine afI X (runS C G X q_X12_bits k_2109 k_2108 (c_X12_bits l E e79) rfl hl.1 rfl (Nat.le_of_ble_eq_true rfl) ⟨Nat.le_of_ble_eq_true rfl, Nat.le_of_ble_eq_true rfl⟩ ⟨Nat.le_of_ble_eq_true rfl, Nat.le_of_ble_eq_true rfl⟩ dX12_odds_79) (fun H locs X => ?_)
      refine lv_iload_n C.1 C.2.1 dX12_odds_82 rfl (lv_at hl 2 rfl) ?_
      refine lv_icmp_ge (tgt := 90) C.1 C.2.1 dX12_odds_83 (by decide) (fun c83 => ?_) (fun c83 => ?_)
      · replace h := ipos c83 h
        refine lv_lconst (v := 1) C.1 C.2.1 dX12_odds_90 (by decide) ?_
        exact w_X12_odds_91 C G ih X (lv_sub hl [0, 1, 2, 3, 4, 5] rfl) h
      · replace h := ineg c83 h
        refine lv_lconst (v := 0) C.1 C.2.1 dX12_odds_86 (by decide) ?_
        refine lv_goto (tgt := 91) C.1 C.2.1 dX12_odds_87 (by decide) ?_
        exact w_X12_odds_91 C G ih X (lv_sub hl [0, 1, 2, 3, 4, 5] rfl) h

set_option maxRecDepth 20000 in
theorem w_X12_odds_46 {r : (Int32 × Mem)} (C : Cx p s m args meth c cX12_odds (some .int) 11 RX12) (G : Gf E s) : ∀ (f : Nat) {x1 : Int32} {x2 : Int32} {j3 : Int64} {j5 : Int64} {x7 : Int32} {σ : Mem} {ls : Array Slot} {H : Heap} {locs : List Loc}, Hx E σ s H locs → lv_has ls 11 [(0, .ref (gB E + 399)), (1, .int x1), (2, .int x2), (3, .long j3), (5, .long j5), (7, .int x7)] → X12_odds_46 f x1 x2 j3 j5 x7 σ = some r → W p l e (RM 2) s m args below meth c H locs 0 0 (QI E below args s r.1 r.2) (F0 m 46 ls []) := by
  intro f
  induction f with
  | zero =>
    intro x1 x2 j3 j5 x7 σ ls H locs X hl h
    rw [X12_odds_46] at h
    cases h
  | succ f ih =>
    intro x1 x2 j3 j5 x7 σ ls H locs X hl h
    rw [X12_odds_46] at h
    refine lv_iload C.1 C.2.1 dX12_odds_46 (lv_at hl 5 rfl) ?_
    refine lv_iload_n C.1 C.2.1 dX12_odds_48 rfl (lv_at hl 1 rfl) ?_
    refine lv_icmp_ge (tgt := 66) C.1 C.2.1 dX12_odds_49 (by decide) (fun c49 => ?_) (fun c49 => ?_)
    · replace h := ipos c49 h
      refine lv_iconst (v := 0) C.1 C.2.1 dX12_odds_66 (by decide) ?_
      refine lv_istore (lv' := [(7, .int (0 : Int32)), (0, .ref (gB E + 399)), (1, .int x1), (2, .int x2), (3, .long j3), (5, .long j5)]) C.1 C.2.1 dX12_odds_67 hl (by decide) rfl (fun ls hl => ?_)
      exact w_X12_odds_69 C G FU X (lv_sub hl [1, 2, 3, 4, 5, 0] rfl) h
    · replace h := ineg c49 h
      refine lv_lload C.1 C.2.1 dX12_odds_52 (lv_at hl 4 rfl) ?_
      refine lv_ldc2 C.1 C.2.1 C.hown (C.ts _ k_2214) dX12_odds_54 ?_
      refine lv_lmul C.1 C.2.1 dX12_odds_57 ?_
      refine lv_lstore (lv' := [(5, .long (j5 * (100 : Int64))), (0, .ref (gB E + 399)), (1, .int x1), (2, .int x2), (3, .long j3), (7, .int x7)]) C.1 C.2.1 dX12_odds_58 hl (by decide) rfl (fun ls hl => ?_)
      refine lv_iinc (v := (x7 + 1)) (lv' := [(7, .int (x7 + 1)), (5, .long (j5 * (100 : Int64))), (0, .ref (gB E + 399)), (1, .int x1), (2, .int x2), (3, .long j3)]) C.1 C.2.1 dX12_odds_60 hl (k := 5) rfl rfl (by decide) rfl (fun ls hl => ?_)
      refine lv_goto (tgt := 46) C.1 C.2.1 dX12_odds_63 (by decide) ?_
      exact ih X (lv_sub hl [2, 3, 4, 5, 1, 0] rfl) h

set_option maxRecDepth 20000 in
theorem w_X12_odds_26 {r : (Int32 × Mem)} {σ : Mem} {x1 : Int32} {x2 : Int32} {y1 : Int32} {ls : Array Slot} {H : Heap} {locs : List Loc} (C : Cx p s m args meth c cX12_odds (some .int) 11 RX12) (G : Gf E s) (X : Hx E σ s H locs) (hl : lv_has ls 11 [(0, .ref (gB E + 399)), (1, .int x1), (2, .int x2)]) (h : X12_odds_26 x1 x2 y1 σ = some r) : W p l e (RM 2) s m args below meth c H locs 0 0 (QI E below args s r.1 r.2) (F0 m 26 ls [.int y1, .ref (gB E + 399)]) := by
  rw [X12_odds_26] at h
  obtain ⟨σ26, e26, h⟩ := bnd h
  refine pfX12 C G X (k := 399) kd_399 0 (x := y1) (ty := .int) rfl rfl (Nat.le_of_ble_eq_true rfl) (by decide) k_1651 rfl rfl (by decide +kernel) rfl rfl dX12_odds_26 (fun H locs X => ?_)
  replace X := pu_x e26 X
  refine lv_aload_n C.1 C.2.1 dX12_odds_29 rfl (lv_at hl 0 rfl) ?_
  refine gfX12 C G X (k := 399) kd_399 0 (v := .int (σ26 399 0)) rfl rfl (by decide) k_1651 rfl dX12_odds_30 ?_
  refine lv_if_le (tgt := 38) C.1 C.2.1 dX12_odds_33 (by decide) (fun c33 => ?_) (fun c33 => ?_)
  · replace h := ipos c33 h
    refine lv_lconst (v := 0) C.1 C.2.1 dX12_odds_38 (by decide) ?_
    refine lv_lstore_n (lv' := [(3, .long (0 : Int64)), (0, .ref (gB E + 399)), (1, .int x1), (2, .int x2)]) C.1 C.2.1 dX12_odds_39 rfl hl (by decide) rfl (fun ls hl => ?_)
    refine lv_lconst (v := 1) C.1 C.2.1 dX12_odds_40 (by decide) ?_
    refine lv_lstore (lv' := [(5, .long (1 : Int64)), (3, .long (0 : Int64)), (0, .ref (gB E + 399)), (1, .int x1), (2, .int x2)]) C.1 C.2.1 dX12_odds_41 hl (by decide) rfl (fun ls hl => ?_)
    refine lv_iconst (v := 0) C.1 C.2.1 dX12_odds_43 (by decide) ?_
    refine lv_istore (lv' := [(7, .int (0 : Int32)), (5, .long (1 : Int64)), (3, .long (0 : Int64)), (0, .ref (gB E + 399)), (1, .int x1), (2, .int x2)]) C.1 C.2.1 dX12_odds_44 hl (by decide) rfl (fun ls hl => ?_)
    exact w_X12_odds_46 C G FU X (lv_sub hl [3, 4, 5, 2, 1, 0] rfl) h
  · replace h := ineg c33 h
    refine lv_iconst (v := 0) C.1 C.2.1 dX12_odds_36 (by decide) ?_
    rw [← Option.some.inj h]
    exact rtI C X dX12_odds_37

set_option maxRecDepth 20000 in
theorem w_X12_odds_21 {r : (Int32 × Mem)} {σ : Mem} {x1 : Int32} {x2 : Int32} {ls : Array Slot} {H : Heap} {locs : List Loc} (C : Cx p s m args meth c cX12_odds (some .int) 11 RX12) (G : Gf E s) (X : Hx E σ s H locs) (hl : lv_has ls 11 [(0, .ref (gB E + 399)), (1, .int x1), (2, .int x2)]) (h : X12_odds_21 x1 x2 σ = some r) : W p l e (RM 2) s m args below meth c H locs 0 0 (QI E below args s r.1 r.2) (F0 m 21 ls [.ref (gB E + 399)]) := by
  rw [X12_odds_21] at h
  refine lv_iconst (v := 1) C.1 C.2.1 dX12_odds_21 (by decide) ?_
  refine lv_goto (tgt := 26) C.1 C.2.1 dX12_odds_22 (by decide) ?_
  exact w_X12_odds_26 C G X (lv_sub hl [0, 1, 2] rfl) h

set_option maxRecDepth 20000 in
theorem w_X12_odds {r : (Int32 × Mem)} {σ : Mem} {x1 : Int32} {x2 : Int32} {ls : Array Slot} {H : Heap} {locs : List Loc} (C : Cx p s m args meth c cX12_odds (some .int) 11 RX12) (G : Gf E s) (X : Hx E σ s H locs) (hl : lv_has ls 11 [(0, .ref (gB E + 399)), (1, .int x1), (2, .int x2)]) (h : X12_odds x1 x2 σ = some r) : W p l e (RM 2) s m args below meth c H locs 0 0 (QI E below args s r.1 r.2) (F0 m 0 ls []) := by
  rw [X12_odds] at h
  refine lv_aload_n C.1 C.2.1 dX12_odds_0 rfl (lv_at hl 0 rfl) ?_
  refine lv_iload_n C.1 C.2.1 dX12_odds_1 rfl (lv_at hl 1 rfl) ?_
  refine lv_iconst (v := 0) C.1 C.2.1 dX12_odds_2 (by decide) ?_
  refine lv_bipush (v := 6) C.1 C.2.1 dX12_odds_3 (by decide) ?_
  obtain ⟨r5, e5, h⟩ := bnd h
  refine afI X (runS C G X q_X12_isIn k_1734 k_1733 (c_X12_isIn l E e5) rfl hl.1 rfl (Nat.le_of_ble_eq_true rfl) ⟨Nat.le_of_ble_eq_true rfl, Nat.le_of_ble_eq_true rfl⟩ ⟨Nat.le_of_ble_eq_true rfl, Nat.le_of_ble_eq_true rfl⟩ dX12_odds_5) (fun H locs X => ?_)
  refine lv_if_eq (tgt := 21) C.1 C.2.1 dX12_odds_8 (by decide) (fun c8 => ?_) (fun c8 => ?_)
  · replace h := ipos c8 h
    exact w_X12_odds_21 C G X (lv_sub hl [0, 1, 2] rfl) h
  · replace h := ineg c8 h
    refine lv_iload_n C.1 C.2.1 dX12_odds_11 rfl (lv_at hl 2 rfl) ?_
    refine lv_iconst (v := 0) C.1 C.2.1 dX12_odds_12 (by decide) ?_
    refine lv_bipush (v := 6) C.1 C.2.1 dX12_odds_13 (by decide) ?_
    obtain ⟨r15, e15, h⟩ := bnd h
    refine afI X (runS C G X q_X12_isIn k_1734 k_1733 (c_X12_isIn l E e15) rfl hl.1 rfl (Nat.le_of_ble_eq_true rfl) ⟨Nat.le_of_ble_eq_true rfl, Nat.le_of_ble_eq_true rfl⟩ ⟨Nat.le_of_ble_eq_true rfl, Nat.le_of_ble_eq_true rfl⟩ dX12_odds_15) (fun H locs X => ?_)
    refine lv_if_ne (tgt := 25) C.1 C.2.1 dX12_odds_18 (by decide) (fun c18 => ?_) (fun c18 => ?_)
    · replace h := ineg c18 h
      refine lv_iconst (v := 0) C.1 C.2.1 dX12_odds_25 (by decide) ?_
      exact w_X12_odds_26 C G X (lv_sub hl [0, 1, 2] rfl) h
    · replace h := ipos c18 h
      exact w_X12_odds_21 C G X (lv_sub hl [0, 1, 2] rfl) h

theorem c_X12_odds (l : Launch) (E : GE) {σ : Mem} {x1 : Int32} {x2 : Int32} {r : (Int32 × Mem)} (h : X12_odds x1 x2 σ = some r) : CtI l E yX12_odds cX12_odds 11 .int 2 [.ref (gB E + 399), .int x1, .int x2] σ r.1 r.2 := by
  refine Met.ofW (cc := cX12_odds) (maxL := 11) (ret := (some .int)) (by decide) rfl ?_
  intro p e s m args below meth c s₁ B hml hv
  obtain ⟨rfl, G, X⟩ := start hv
  have C := cxof B hml
  have hl := lv_entry [.ref (gB E + 399), .int x1, .int x2] (n := 11) (Nat.le_of_ble_eq_true rfl)
  rw [lg_entry_eq]
  generalize (lg_sl [.ref (gB E + 399), .int x1, .int x2] ++ List.replicate (11 - (lg_sl [.ref (gB E + 399), .int x1, .int x2]).length) Slot.unset).toArray = ls at hl ⊢
  exact w_X12_odds C G X hl h

set_option maxRecDepth 20000 in
theorem w_X12_bright {r : (Int32 × Mem)} {σ : Mem} {ls : Array Slot} {H : Heap} {locs : List Loc} (C : Cx p s m args meth c cX12_bright (some .int) 1 RX12) (G : Gf E s) (X : Hx E σ s H locs) (hl : lv_has ls 1 [(0, .ref (gB E + 399))]) (h : X12_bright σ = some r) : W p l e (RM 3) s m args below meth c H locs 0 0 (QI E below args s r.1 r.2) (F0 m 0 ls []) := by
  rw [X12_bright] at h
  refine lv_aload_n C.1 C.2.1 dX12_bright_0 rfl (lv_at hl 0 rfl) ?_
  refine lv_iconst (v := 0) C.1 C.2.1 dX12_bright_1 (by decide) ?_
  obtain ⟨σ2, e2, h⟩ := bnd h
  refine pfX12 C G X (k := 399) kd_399 0 (x := (0 : Int32)) (ty := .int) rfl rfl (Nat.le_of_ble_eq_true rfl) (by decide) k_1651 rfl rfl (by decide +kernel) rfl rfl dX12_bright_2 (fun H locs X => ?_)
  replace X := pu_x e2 X
  refine lv_aload_n C.1 C.2.1 dX12_bright_5 rfl (lv_at hl 0 rfl) ?_
  obtain ⟨r6, e6, h⟩ := bnd h
  refine afI X (runV C G X q_X12_burning k_2074 kp_82 k_2072 (rcX12 G X kd_399) (c_X12_burning l E e6) rfl hl.1 rfl (Nat.le_of_ble_eq_true rfl) ⟨Nat.le_of_ble_eq_true rfl, Nat.le_of_ble_eq_true rfl⟩ ⟨Nat.le_of_ble_eq_true rfl, Nat.le_of_ble_eq_true rfl⟩ dX12_bright_6) (fun H locs X => ?_)
  rw [← Option.some.inj h]
  exact rtI C X dX12_bright_9

theorem c_X12_bright (l : Launch) (E : GE) {σ : Mem} {r : (Int32 × Mem)} (h : X12_bright σ = some r) : CtI l E yX12_bright cX12_bright 1 .int 3 [.ref (gB E + 399)] σ r.1 r.2 := by
  refine Met.ofW (cc := cX12_bright) (maxL := 1) (ret := (some .int)) (by decide) rfl ?_
  intro p e s m args below meth c s₁ B hml hv
  obtain ⟨rfl, G, X⟩ := start hv
  have C := cxof B hml
  have hl := lv_entry [.ref (gB E + 399)] (n := 1) (Nat.le_of_ble_eq_true rfl)
  rw [lg_entry_eq]
  generalize (lg_sl [.ref (gB E + 399)] ++ List.replicate (1 - (lg_sl [.ref (gB E + 399)]).length) Slot.unset).toArray = ls at hl ⊢
  exact w_X12_bright C G X hl h

set_option maxRecDepth 20000 in
theorem w_X12_gloom_39 {r : (Int32 × Mem)} {σ : Mem} {rc9 : Int32 → Int32 → Mem → Option (Int32 × Mem)} {x2 : Int32} {ls : Array Slot} {H : Heap} {locs : List Loc} (C : Cx p s m args meth c cX12_gloom (some .int) 3 RX12) (G : Gf E s) (hr9 : ∀ {x1 : Int32} {x2 : Int32} {σ : Mem} {ls : Array Slot} {H : Heap} {locs : List Loc}, Hx E σ s H locs → lv_has ls 3 [(0, .ref (gB E + 399)), (1, .int x1), (2, .int x2)] → rc9 x1 x2 σ = some r → W p l e (RM 2) s m args below meth c H locs 0 0 (QI E below args s r.1 r.2) (F0 m 9 ls [])) (X : Hx E σ s H locs) (hl : lv_has ls 3 [(0, .ref (gB E + 399)), (2, .int x2)]) (h : X12_gloom_39 rc9 x2 σ = some r) : W p l e (RM 2) s m args below meth c H locs 0 0 (QI E below args s r.1 r.2) (F0 m 39 ls []) := by
  rw [X12_gloom_39] at h
  refine lv_iload_n C.1 C.2.1 dX12_gloom_39 rfl (lv_at hl 1 rfl) ?_
  refine lv_istore_n (lv' := [(1, .int x2), (0, .ref (gB E + 399)), (2, .int x2)]) C.1 C.2.1 dX12_gloom_40 rfl hl (by decide) rfl (fun ls hl => ?_)
  refine lv_iinc (v := (x2 + 1)) (lv' := [(2, .int (x2 + 1)), (1, .int x2), (0, .ref (gB E + 399))]) C.1 C.2.1 dX12_gloom_41 hl (k := 2) rfl rfl (by decide) rfl (fun ls hl => ?_)
  refine lv_goto (tgt := 9) C.1 C.2.1 dX12_gloom_44 (by decide) ?_
  exact hr9 X (lv_sub hl [2, 1, 0] rfl) h

set_option maxRecDepth 20000 in
theorem w_X12_gloom_9 {r : (Int32 × Mem)} (C : Cx p s m args meth c cX12_gloom (some .int) 3 RX12) (G : Gf E s) : ∀ (f : Nat) {x1 : Int32} {x2 : Int32} {σ : Mem} {ls : Array Slot} {H : Heap} {locs : List Loc}, Hx E σ s H locs → lv_has ls 3 [(0, .ref (gB E + 399)), (1, .int x1), (2, .int x2)] → X12_gloom_9 f x1 x2 σ = some r → W p l e (RM 2) s m args below meth c H locs 0 0 (QI E below args s r.1 r.2) (F0 m 9 ls []) := by
  intro f
  induction f with
  | zero =>
    intro x1 x2 σ ls H locs X hl h
    rw [X12_gloom_9] at h
    cases h
  | succ f ih =>
    intro x1 x2 σ ls H locs X hl h
    rw [X12_gloom_9] at h
    refine lv_iload_n C.1 C.2.1 dX12_gloom_9 rfl (lv_at hl 2 rfl) ?_
    refine lv_aload_n C.1 C.2.1 dX12_gloom_10 rfl (lv_at hl 0 rfl) ?_
    refine gfX12 C G X (k := 399) kd_399 1 (v := .ref (gB E + 400)) rfl rfl (by decide) k_1652 rfl dX12_gloom_11 ?_
    refine lv_iconst (v := 3) C.1 C.2.1 dX12_gloom_14 (by decide) ?_
    obtain ⟨r15, e15, h⟩ := bnd h
    refine ald C G X (k := 400) kd_400 (ag_s e15).1 dX12_gloom_15 ?_
    rw [(ag_s e15).2]
    refine lv_icmp_ge (tgt := 47) C.1 C.2.1 dX12_gloom_16 (by decide) (fun c16 => ?_) (fun c16 => ?_)
    · replace h := ipos c16 h
      refine lv_iload_n C.1 C.2.1 dX12_gloom_47 rfl (lv_at hl 1 rfl) ?_
      rw [← Option.some.inj h]
      exact rtI C X dX12_gloom_48
    · replace h := ineg c16 h
      refine lv_iload_n C.1 C.2.1 dX12_gloom_19 rfl (lv_at hl 1 rfl) ?_
      refine lv_iconst (v := -1) C.1 C.2.1 dX12_gloom_20 (by decide) ?_
      refine lv_icmp_eq (tgt := 39) C.1 C.2.1 dX12_gloom_21 (by decide) (fun c21 => ?_) (fun c21 => ?_)
      · replace h := ipos c21 h
        exact w_X12_gloom_39 C G ih X (lv_sub hl [0, 2] rfl) h
      · replace h := ineg c21 h
        refine lv_aload_n C.1 C.2.1 dX12_gloom_24 rfl (lv_at hl 0 rfl) ?_
        refine lv_iload_n C.1 C.2.1 dX12_gloom_25 rfl (lv_at hl 2 rfl) ?_
        refine lv_iconst (v := 3) C.1 C.2.1 dX12_gloom_26 (by decide) ?_
        obtain ⟨r27, e27, h⟩ := bnd h
        refine afI X (runV C G X q_X12_of k_1855 kp_49 k_1853 (rcX12 G X kd_399) (c_X12_of l E e27) rfl hl.1 rfl (Nat.le_of_ble_eq_true rfl) ⟨Nat.le_of_ble_eq_true rfl, Nat.le_of_ble_eq_true rfl⟩ ⟨Nat.le_of_ble_eq_true rfl, Nat.le_of_ble_eq_true rfl⟩ dX12_gloom_27) (fun H locs X => ?_)
        refine lv_aload_n C.1 C.2.1 dX12_gloom_30 rfl (lv_at hl 0 rfl) ?_
        refine lv_iload_n C.1 C.2.1 dX12_gloom_31 rfl (lv_at hl 1 rfl) ?_
        refine lv_iconst (v := 3) C.1 C.2.1 dX12_gloom_32 (by decide) ?_
        obtain ⟨r33, e33, h⟩ := bnd h
        refine afI X (runV C G X q_X12_of k_1855 kp_49 k_1853 (rcX12 G X kd_399) (c_X12_of l E e33) rfl hl.1 rfl (Nat.le_of_ble_eq_true rfl) ⟨Nat.le_of_ble_eq_true rfl, Nat.le_of_ble_eq_true rfl⟩ ⟨Nat.le_of_ble_eq_true rfl, Nat.le_of_ble_eq_true rfl⟩ dX12_gloom_33) (fun H locs X => ?_)
        refine lv_icmp_le (tgt := 41) C.1 C.2.1 dX12_gloom_36 (by decide) (fun c36 => ?_) (fun c36 => ?_)
        · replace h := ipos c36 h
          refine lv_iinc (v := (x2 + 1)) (lv' := [(2, .int (x2 + 1)), (0, .ref (gB E + 399)), (1, .int x1)]) C.1 C.2.1 dX12_gloom_41 hl (k := 2) rfl rfl (by decide) rfl (fun ls hl => ?_)
          refine lv_goto (tgt := 9) C.1 C.2.1 dX12_gloom_44 (by decide) ?_
          exact ih X (lv_sub hl [1, 2, 0] rfl) h
        · replace h := ineg c36 h
          exact w_X12_gloom_39 C G ih X (lv_sub hl [0, 2] rfl) h

set_option maxRecDepth 20000 in
theorem w_X12_gloom {r : (Int32 × Mem)} {σ : Mem} {ls : Array Slot} {H : Heap} {locs : List Loc} (C : Cx p s m args meth c cX12_gloom (some .int) 3 RX12) (G : Gf E s) (X : Hx E σ s H locs) (hl : lv_has ls 3 [(0, .ref (gB E + 399))]) (h : X12_gloom σ = some r) : W p l e (RM 2) s m args below meth c H locs 0 0 (QI E below args s r.1 r.2) (F0 m 0 ls []) := by
  rw [X12_gloom] at h
  refine lv_aload_n C.1 C.2.1 dX12_gloom_0 rfl (lv_at hl 0 rfl) ?_
  refine lv_iconst (v := 0) C.1 C.2.1 dX12_gloom_1 (by decide) ?_
  obtain ⟨σ2, e2, h⟩ := bnd h
  refine pfX12 C G X (k := 399) kd_399 0 (x := (0 : Int32)) (ty := .int) rfl rfl (Nat.le_of_ble_eq_true rfl) (by decide) k_1651 rfl rfl (by decide +kernel) rfl rfl dX12_gloom_2 (fun H locs X => ?_)
  replace X := pu_x e2 X
  refine lv_iconst (v := -1) C.1 C.2.1 dX12_gloom_5 (by decide) ?_
  refine lv_istore_n (lv' := [(1, .int (-1 : Int32)), (0, .ref (gB E + 399))]) C.1 C.2.1 dX12_gloom_6 rfl hl (by decide) rfl (fun ls hl => ?_)
  refine lv_iconst (v := 0) C.1 C.2.1 dX12_gloom_7 (by decide) ?_
  refine lv_istore_n (lv' := [(2, .int (0 : Int32)), (1, .int (-1 : Int32)), (0, .ref (gB E + 399))]) C.1 C.2.1 dX12_gloom_8 rfl hl (by decide) rfl (fun ls hl => ?_)
  exact w_X12_gloom_9 C G FU X (lv_sub hl [2, 1, 0] rfl) h

theorem c_X12_gloom (l : Launch) (E : GE) {σ : Mem} {r : (Int32 × Mem)} (h : X12_gloom σ = some r) : CtI l E yX12_gloom cX12_gloom 3 .int 2 [.ref (gB E + 399)] σ r.1 r.2 := by
  refine Met.ofW (cc := cX12_gloom) (maxL := 3) (ret := (some .int)) (by decide) rfl ?_
  intro p e s m args below meth c s₁ B hml hv
  obtain ⟨rfl, G, X⟩ := start hv
  have C := cxof B hml
  have hl := lv_entry [.ref (gB E + 399)] (n := 3) (Nat.le_of_ble_eq_true rfl)
  rw [lg_entry_eq]
  generalize (lg_sl [.ref (gB E + 399)] ++ List.replicate (3 - (lg_sl [.ref (gB E + 399)]).length) Slot.unset).toArray = ls at hl ⊢
  exact w_X12_gloom C G X hl h

set_option maxRecDepth 20000 in
theorem w_X12_lamplighter_40 {r : (Int32 × Mem)} {σ : Mem} {rc9 : Int32 → Int32 → Mem → Option (Int32 × Mem)} {x1 : Int32} {x2 : Int32} {y0 : Int32} {y1 : Int32} {ls : Array Slot} {H : Heap} {locs : List Loc} (C : Cx p s m args meth c cX12_lamplighter (some .int) 3 RX12) (G : Gf E s) (hr9 : ∀ {x1 : Int32} {x2 : Int32} {σ : Mem} {ls : Array Slot} {H : Heap} {locs : List Loc}, Hx E σ s H locs → lv_has ls 3 [(0, .ref (gB E + 399)), (1, .int x1), (2, .int x2)] → rc9 x1 x2 σ = some r → W p l e (RM 2) s m args below meth c H locs 0 0 (QI E below args s r.1 r.2) (F0 m 9 ls [])) (X : Hx E σ s H locs) (hl : lv_has ls 3 [(0, .ref (gB E + 399)), (1, .int x1), (2, .int x2)]) (h : X12_lamplighter_40 rc9 x1 x2 y0 y1 σ = some r) : W p l e (RM 2) s m args below meth c H locs 0 0 (QI E below args s r.1 r.2) (F0 m 40 ls [.int y1, .int y0]) := by
  rw [X12_lamplighter_40] at h
  refine lv_icmp_le (tgt := 45) C.1 C.2.1 dX12_lamplighter_40 (by decide) (fun c40 => ?_) (fun c40 => ?_)
  · replace h := ipos c40 h
    refine lv_iinc (v := (x2 + 1)) (lv' := [(2, .int (x2 + 1)), (0, .ref (gB E + 399)), (1, .int x1)]) C.1 C.2.1 dX12_lamplighter_45 hl (k := 2) rfl rfl (by decide) rfl (fun ls hl => ?_)
    refine lv_goto (tgt := 9) C.1 C.2.1 dX12_lamplighter_48 (by decide) ?_
    exact hr9 X (lv_sub hl [1, 2, 0] rfl) h
  · replace h := ineg c40 h
    refine lv_iload_n C.1 C.2.1 dX12_lamplighter_43 rfl (lv_at hl 2 rfl) ?_
    refine lv_istore_n (lv' := [(1, .int x2), (0, .ref (gB E + 399)), (2, .int x2)]) C.1 C.2.1 dX12_lamplighter_44 rfl hl (by decide) rfl (fun ls hl => ?_)
    refine lv_iinc (v := (x2 + 1)) (lv' := [(2, .int (x2 + 1)), (1, .int x2), (0, .ref (gB E + 399))]) C.1 C.2.1 dX12_lamplighter_45 hl (k := 2) rfl rfl (by decide) rfl (fun ls hl => ?_)
    refine lv_goto (tgt := 9) C.1 C.2.1 dX12_lamplighter_48 (by decide) ?_
    exact hr9 X (lv_sub hl [2, 1, 0] rfl) h

set_option maxRecDepth 20000 in
theorem w_X12_lamplighter_9 {r : (Int32 × Mem)} (C : Cx p s m args meth c cX12_lamplighter (some .int) 3 RX12) (G : Gf E s) : ∀ (f : Nat) {x1 : Int32} {x2 : Int32} {σ : Mem} {ls : Array Slot} {H : Heap} {locs : List Loc}, Hx E σ s H locs → lv_has ls 3 [(0, .ref (gB E + 399)), (1, .int x1), (2, .int x2)] → X12_lamplighter_9 f x1 x2 σ = some r → W p l e (RM 2) s m args below meth c H locs 0 0 (QI E below args s r.1 r.2) (F0 m 9 ls []) := by
  intro f
  induction f with
  | zero =>
    intro x1 x2 σ ls H locs X hl h
    rw [X12_lamplighter_9] at h
    cases h
  | succ f ih =>
    intro x1 x2 σ ls H locs X hl h
    rw [X12_lamplighter_9] at h
    refine lv_iload_n C.1 C.2.1 dX12_lamplighter_9 rfl (lv_at hl 2 rfl) ?_
    refine lv_aload_n C.1 C.2.1 dX12_lamplighter_10 rfl (lv_at hl 0 rfl) ?_
    refine gfX12 C G X (k := 399) kd_399 1 (v := .ref (gB E + 400)) rfl rfl (by decide) k_1652 rfl dX12_lamplighter_11 ?_
    refine lv_iconst (v := 4) C.1 C.2.1 dX12_lamplighter_14 (by decide) ?_
    obtain ⟨r15, e15, h⟩ := bnd h
    refine ald C G X (k := 400) kd_400 (ag_s e15).1 dX12_lamplighter_15 ?_
    rw [(ag_s e15).2]
    refine lv_icmp_ge (tgt := 51) C.1 C.2.1 dX12_lamplighter_16 (by decide) (fun c16 => ?_) (fun c16 => ?_)
    · replace h := ipos c16 h
      refine lv_iload_n C.1 C.2.1 dX12_lamplighter_51 rfl (lv_at hl 1 rfl) ?_
      rw [← Option.some.inj h]
      exact rtI C X dX12_lamplighter_52
    · replace h := ineg c16 h
      refine lv_aload_n C.1 C.2.1 dX12_lamplighter_19 rfl (lv_at hl 0 rfl) ?_
      refine lv_iload_n C.1 C.2.1 dX12_lamplighter_20 rfl (lv_at hl 2 rfl) ?_
      refine lv_iconst (v := 3) C.1 C.2.1 dX12_lamplighter_21 (by decide) ?_
      obtain ⟨r22, e22, h⟩ := bnd h
      refine afI X (runV C G X q_X12_ofWalker k_1915 kp_60 k_1913 (rcX12 G X kd_399) (c_X12_ofWalker l E e22) rfl hl.1 rfl (Nat.le_of_ble_eq_true rfl) ⟨Nat.le_of_ble_eq_true rfl, Nat.le_of_ble_eq_true rfl⟩ ⟨Nat.le_of_ble_eq_true rfl, Nat.le_of_ble_eq_true rfl⟩ dX12_lamplighter_22) (fun H locs X => ?_)
      refine lv_iload_n C.1 C.2.1 dX12_lamplighter_25 rfl (lv_at hl 1 rfl) ?_
      refine lv_iconst (v := -1) C.1 C.2.1 dX12_lamplighter_26 (by decide) ?_
      refine lv_icmp_ne (tgt := 34) C.1 C.2.1 dX12_lamplighter_27 (by decide) (fun c27 => ?_) (fun c27 => ?_)
      · replace h := ineg c27 h
        refine lv_aload_n C.1 C.2.1 dX12_lamplighter_34 rfl (lv_at hl 0 rfl) ?_
        refine lv_iload_n C.1 C.2.1 dX12_lamplighter_35 rfl (lv_at hl 1 rfl) ?_
        refine lv_iconst (v := 3) C.1 C.2.1 dX12_lamplighter_36 (by decide) ?_
        obtain ⟨r37, e37, h⟩ := bnd h
        refine afI X (runV C G X q_X12_ofWalker k_1915 kp_60 k_1913 (rcX12 G X kd_399) (c_X12_ofWalker l E e37) rfl hl.1 rfl (Nat.le_of_ble_eq_true rfl) ⟨Nat.le_of_ble_eq_true rfl, Nat.le_of_ble_eq_true rfl⟩ ⟨Nat.le_of_ble_eq_true rfl, Nat.le_of_ble_eq_true rfl⟩ dX12_lamplighter_37) (fun H locs X => ?_)
        exact w_X12_lamplighter_40 C G ih X (lv_sub hl [0, 1, 2] rfl) h
      · replace h := ipos c27 h
        refine lv_iconst (v := 0) C.1 C.2.1 dX12_lamplighter_30 (by decide) ?_
        refine lv_goto (tgt := 40) C.1 C.2.1 dX12_lamplighter_31 (by decide) ?_
        exact w_X12_lamplighter_40 C G ih X (lv_sub hl [0, 1, 2] rfl) h

set_option maxRecDepth 20000 in
theorem w_X12_lamplighter {r : (Int32 × Mem)} {σ : Mem} {ls : Array Slot} {H : Heap} {locs : List Loc} (C : Cx p s m args meth c cX12_lamplighter (some .int) 3 RX12) (G : Gf E s) (X : Hx E σ s H locs) (hl : lv_has ls 3 [(0, .ref (gB E + 399))]) (h : X12_lamplighter σ = some r) : W p l e (RM 2) s m args below meth c H locs 0 0 (QI E below args s r.1 r.2) (F0 m 0 ls []) := by
  rw [X12_lamplighter] at h
  refine lv_aload_n C.1 C.2.1 dX12_lamplighter_0 rfl (lv_at hl 0 rfl) ?_
  refine lv_iconst (v := 0) C.1 C.2.1 dX12_lamplighter_1 (by decide) ?_
  obtain ⟨σ2, e2, h⟩ := bnd h
  refine pfX12 C G X (k := 399) kd_399 0 (x := (0 : Int32)) (ty := .int) rfl rfl (Nat.le_of_ble_eq_true rfl) (by decide) k_1651 rfl rfl (by decide +kernel) rfl rfl dX12_lamplighter_2 (fun H locs X => ?_)
  replace X := pu_x e2 X
  refine lv_iconst (v := -1) C.1 C.2.1 dX12_lamplighter_5 (by decide) ?_
  refine lv_istore_n (lv' := [(1, .int (-1 : Int32)), (0, .ref (gB E + 399))]) C.1 C.2.1 dX12_lamplighter_6 rfl hl (by decide) rfl (fun ls hl => ?_)
  refine lv_iconst (v := 0) C.1 C.2.1 dX12_lamplighter_7 (by decide) ?_
  refine lv_istore_n (lv' := [(2, .int (0 : Int32)), (1, .int (-1 : Int32)), (0, .ref (gB E + 399))]) C.1 C.2.1 dX12_lamplighter_8 rfl hl (by decide) rfl (fun ls hl => ?_)
  exact w_X12_lamplighter_9 C G FU X (lv_sub hl [2, 1, 0] rfl) h

theorem c_X12_lamplighter (l : Launch) (E : GE) {σ : Mem} {r : (Int32 × Mem)} (h : X12_lamplighter σ = some r) : CtI l E yX12_lamplighter cX12_lamplighter 3 .int 2 [.ref (gB E + 399)] σ r.1 r.2 := by
  refine Met.ofW (cc := cX12_lamplighter) (maxL := 3) (ret := (some .int)) (by decide) rfl ?_
  intro p e s m args below meth c s₁ B hml hv
  obtain ⟨rfl, G, X⟩ := start hv
  have C := cxof B hml
  have hl := lv_entry [.ref (gB E + 399)] (n := 3) (Nat.le_of_ble_eq_true rfl)
  rw [lg_entry_eq]
  generalize (lg_sl [.ref (gB E + 399)] ++ List.replicate (3 - (lg_sl [.ref (gB E + 399)]).length) Slot.unset).toArray = ls at hl ⊢
  exact w_X12_lamplighter C G X hl h

set_option maxRecDepth 20000 in
theorem w_X12_spent_36 {r : (Int32 × Mem)} {σ : Mem} {rc9 : Int32 → Int32 → Mem → Option (Int32 × Mem)} {x2 : Int32} {y0 : Int32} {y1 : Int32} {ls : Array Slot} {H : Heap} {locs : List Loc} (C : Cx p s m args meth c cX12_spent (some .int) 3 RX12) (G : Gf E s) (hr9 : ∀ {x1 : Int32} {x2 : Int32} {σ : Mem} {ls : Array Slot} {H : Heap} {locs : List Loc}, Hx E σ s H locs → lv_has ls 3 [(0, .ref (gB E + 399)), (1, .int x1), (2, .int x2)] → rc9 x1 x2 σ = some r → W p l e (RM 2) s m args below meth c H locs 0 0 (QI E below args s r.1 r.2) (F0 m 9 ls [])) (X : Hx E σ s H locs) (hl : lv_has ls 3 [(0, .ref (gB E + 399)), (2, .int x2)]) (h : X12_spent_36 rc9 x2 y0 y1 σ = some r) : W p l e (RM 2) s m args below meth c H locs 0 0 (QI E below args s r.1 r.2) (F0 m 36 ls [.int y1, .int y0]) := by
  rw [X12_spent_36] at h
  refine lv_ior C.1 C.2.1 dX12_spent_36 ?_
  refine lv_istore_n (lv' := [(1, .int (y0 ||| y1)), (0, .ref (gB E + 399)), (2, .int x2)]) C.1 C.2.1 dX12_spent_37 rfl hl (by decide) rfl (fun ls hl => ?_)
  refine lv_iinc (v := (x2 + 1)) (lv' := [(2, .int (x2 + 1)), (1, .int (y0 ||| y1)), (0, .ref (gB E + 399))]) C.1 C.2.1 dX12_spent_38 hl (k := 2) rfl rfl (by decide) rfl (fun ls hl => ?_)
  refine lv_goto (tgt := 9) C.1 C.2.1 dX12_spent_41 (by decide) ?_
  exact hr9 X (lv_sub hl [2, 1, 0] rfl) h

set_option maxRecDepth 20000 in
theorem w_X12_spent_9 {r : (Int32 × Mem)} (C : Cx p s m args meth c cX12_spent (some .int) 3 RX12) (G : Gf E s) : ∀ (f : Nat) {x1 : Int32} {x2 : Int32} {σ : Mem} {ls : Array Slot} {H : Heap} {locs : List Loc}, Hx E σ s H locs → lv_has ls 3 [(0, .ref (gB E + 399)), (1, .int x1), (2, .int x2)] → X12_spent_9 f x1 x2 σ = some r → W p l e (RM 2) s m args below meth c H locs 0 0 (QI E below args s r.1 r.2) (F0 m 9 ls []) := by
  intro f
  induction f with
  | zero =>
    intro x1 x2 σ ls H locs X hl h
    rw [X12_spent_9] at h
    cases h
  | succ f ih =>
    intro x1 x2 σ ls H locs X hl h
    rw [X12_spent_9] at h
    refine lv_iload_n C.1 C.2.1 dX12_spent_9 rfl (lv_at hl 2 rfl) ?_
    refine lv_aload_n C.1 C.2.1 dX12_spent_10 rfl (lv_at hl 0 rfl) ?_
    refine gfX12 C G X (k := 399) kd_399 1 (v := .ref (gB E + 400)) rfl rfl (by decide) k_1652 rfl dX12_spent_11 ?_
    refine lv_iconst (v := 4) C.1 C.2.1 dX12_spent_14 (by decide) ?_
    obtain ⟨r15, e15, h⟩ := bnd h
    refine ald C G X (k := 400) kd_400 (ag_s e15).1 dX12_spent_15 ?_
    rw [(ag_s e15).2]
    refine lv_icmp_ge (tgt := 44) C.1 C.2.1 dX12_spent_16 (by decide) (fun c16 => ?_) (fun c16 => ?_)
    · replace h := ipos c16 h
      refine lv_iload_n C.1 C.2.1 dX12_spent_44 rfl (lv_at hl 1 rfl) ?_
      rw [← Option.some.inj h]
      exact rtI C X dX12_spent_45
    · replace h := ineg c16 h
      refine lv_iload_n C.1 C.2.1 dX12_spent_19 rfl (lv_at hl 1 rfl) ?_
      refine lv_aload_n C.1 C.2.1 dX12_spent_20 rfl (lv_at hl 0 rfl) ?_
      refine lv_iload_n C.1 C.2.1 dX12_spent_21 rfl (lv_at hl 2 rfl) ?_
      refine lv_iconst (v := 1) C.1 C.2.1 dX12_spent_22 (by decide) ?_
      obtain ⟨r23, e23, h⟩ := bnd h
      refine afI X (runV C G X q_X12_ofWalker k_1915 kp_60 k_1913 (rcX12 G X kd_399) (c_X12_ofWalker l E e23) rfl hl.1 rfl (Nat.le_of_ble_eq_true rfl) ⟨Nat.le_of_ble_eq_true rfl, Nat.le_of_ble_eq_true rfl⟩ ⟨Nat.le_of_ble_eq_true rfl, Nat.le_of_ble_eq_true rfl⟩ dX12_spent_23) (fun H locs X => ?_)
      refine lv_if_ne (tgt := 35) C.1 C.2.1 dX12_spent_26 (by decide) (fun c26 => ?_) (fun c26 => ?_)
      · replace h := ineg c26 h
        refine lv_iconst (v := 0) C.1 C.2.1 dX12_spent_35 (by decide) ?_
        exact w_X12_spent_36 C G ih X (lv_sub hl [0, 2] rfl) h
      · replace h := ipos c26 h
        refine lv_iconst (v := 1) C.1 C.2.1 dX12_spent_29 (by decide) ?_
        refine lv_iload_n C.1 C.2.1 dX12_spent_30 rfl (lv_at hl 2 rfl) ?_
        refine lv_ishl C.1 C.2.1 dX12_spent_31 ?_
        refine lv_goto (tgt := 36) C.1 C.2.1 dX12_spent_32 (by decide) ?_
        exact w_X12_spent_36 C G ih X (lv_sub hl [0, 2] rfl) h

set_option maxRecDepth 20000 in
theorem w_X12_spent {r : (Int32 × Mem)} {σ : Mem} {ls : Array Slot} {H : Heap} {locs : List Loc} (C : Cx p s m args meth c cX12_spent (some .int) 3 RX12) (G : Gf E s) (X : Hx E σ s H locs) (hl : lv_has ls 3 [(0, .ref (gB E + 399))]) (h : X12_spent σ = some r) : W p l e (RM 2) s m args below meth c H locs 0 0 (QI E below args s r.1 r.2) (F0 m 0 ls []) := by
  rw [X12_spent] at h
  refine lv_aload_n C.1 C.2.1 dX12_spent_0 rfl (lv_at hl 0 rfl) ?_
  refine lv_iconst (v := 0) C.1 C.2.1 dX12_spent_1 (by decide) ?_
  obtain ⟨σ2, e2, h⟩ := bnd h
  refine pfX12 C G X (k := 399) kd_399 0 (x := (0 : Int32)) (ty := .int) rfl rfl (Nat.le_of_ble_eq_true rfl) (by decide) k_1651 rfl rfl (by decide +kernel) rfl rfl dX12_spent_2 (fun H locs X => ?_)
  replace X := pu_x e2 X
  refine lv_iconst (v := 0) C.1 C.2.1 dX12_spent_5 (by decide) ?_
  refine lv_istore_n (lv' := [(1, .int (0 : Int32)), (0, .ref (gB E + 399))]) C.1 C.2.1 dX12_spent_6 rfl hl (by decide) rfl (fun ls hl => ?_)
  refine lv_iconst (v := 0) C.1 C.2.1 dX12_spent_7 (by decide) ?_
  refine lv_istore_n (lv' := [(2, .int (0 : Int32)), (1, .int (0 : Int32)), (0, .ref (gB E + 399))]) C.1 C.2.1 dX12_spent_8 rfl hl (by decide) rfl (fun ls hl => ?_)
  exact w_X12_spent_9 C G FU X (lv_sub hl [2, 1, 0] rfl) h

theorem c_X12_spent (l : Launch) (E : GE) {σ : Mem} {r : (Int32 × Mem)} (h : X12_spent σ = some r) : CtI l E yX12_spent cX12_spent 3 .int 2 [.ref (gB E + 399)] σ r.1 r.2 := by
  refine Met.ofW (cc := cX12_spent) (maxL := 3) (ret := (some .int)) (by decide) rfl ?_
  intro p e s m args below meth c s₁ B hml hv
  obtain ⟨rfl, G, X⟩ := start hv
  have C := cxof B hml
  have hl := lv_entry [.ref (gB E + 399)] (n := 3) (Nat.le_of_ble_eq_true rfl)
  rw [lg_entry_eq]
  generalize (lg_sl [.ref (gB E + 399)] ++ List.replicate (3 - (lg_sl [.ref (gB E + 399)]).length) Slot.unset).toArray = ls at hl ⊢
  exact w_X12_spent C G X hl h

set_option maxRecDepth 20000 in
theorem w_X12_crowdAt_30 {r : Int32} {σ : Mem} {rc4 : Int32 → Int32 → Int32 → Option Int32} {x1 : Int32} {x3 : Int32} {y0 : Int32} {y1 : Int32} {ls : Array Slot} {H : Heap} {locs : List Loc} (C : Cx p s m args meth c cX12_crowdAt (some .int) 4 RX12) (G : Gf E s) (hr4 : ∀ {x1 : Int32} {x2 : Int32} {x3 : Int32} {ls : Array Slot} {H : Heap} {locs : List Loc}, Hx E σ s H locs → lv_has ls 4 [(0, .ref (gB E + 399)), (1, .int x1), (2, .int x2), (3, .int x3)] → rc4 x1 x2 x3 = some r → W p l e (RM 2) s m args below meth c H locs 0 0 (QI E below args s r σ) (F0 m 4 ls [])) (X : Hx E σ s H locs) (hl : lv_has ls 4 [(0, .ref (gB E + 399)), (1, .int x1), (3, .int x3)]) (h : X12_crowdAt_30 σ rc4 x1 x3 y0 y1 = some r) : W p l e (RM 2) s m args below meth c H locs 0 0 (QI E below args s r σ) (F0 m 30 ls [.int y1, .int y0]) := by
  rw [X12_crowdAt_30] at h
  refine lv_iadd C.1 C.2.1 dX12_crowdAt_30 ?_
  refine lv_istore_n (lv' := [(2, .int (y0 + y1)), (0, .ref (gB E + 399)), (1, .int x1), (3, .int x3)]) C.1 C.2.1 dX12_crowdAt_31 rfl hl (by decide) rfl (fun ls hl => ?_)
  refine lv_iinc (v := (x3 + 1)) (lv' := [(3, .int (x3 + 1)), (2, .int (y0 + y1)), (0, .ref (gB E + 399)), (1, .int x1)]) C.1 C.2.1 dX12_crowdAt_32 hl (k := 3) rfl rfl (by decide) rfl (fun ls hl => ?_)
  refine lv_goto (tgt := 4) C.1 C.2.1 dX12_crowdAt_35 (by decide) ?_
  exact hr4 X (lv_sub hl [2, 3, 1, 0] rfl) h

set_option maxRecDepth 20000 in
theorem w_X12_crowdAt_4 {r : Int32} {σ : Mem} (C : Cx p s m args meth c cX12_crowdAt (some .int) 4 RX12) (G : Gf E s) : ∀ (f : Nat) {x1 : Int32} {x2 : Int32} {x3 : Int32} {ls : Array Slot} {H : Heap} {locs : List Loc}, Hx E σ s H locs → lv_has ls 4 [(0, .ref (gB E + 399)), (1, .int x1), (2, .int x2), (3, .int x3)] → X12_crowdAt_4 σ f x1 x2 x3 = some r → W p l e (RM 2) s m args below meth c H locs 0 0 (QI E below args s r σ) (F0 m 4 ls []) := by
  intro f
  induction f with
  | zero =>
    intro x1 x2 x3 ls H locs X hl h
    rw [X12_crowdAt_4] at h
    cases h
  | succ f ih =>
    intro x1 x2 x3 ls H locs X hl h
    rw [X12_crowdAt_4] at h
    refine lv_iload_n C.1 C.2.1 dX12_crowdAt_4 rfl (lv_at hl 3 rfl) ?_
    refine lv_aload_n C.1 C.2.1 dX12_crowdAt_5 rfl (lv_at hl 0 rfl) ?_
    refine gfX12 C G X (k := 399) kd_399 1 (v := .ref (gB E + 400)) rfl rfl (by decide) k_1652 rfl dX12_crowdAt_6 ?_
    refine lv_iconst (v := 4) C.1 C.2.1 dX12_crowdAt_9 (by decide) ?_
    obtain ⟨r10, e10, h⟩ := bnd h
    refine ald C G X (k := 400) kd_400 (ag_s e10).1 dX12_crowdAt_10 ?_
    rw [(ag_s e10).2]
    refine lv_icmp_ge (tgt := 38) C.1 C.2.1 dX12_crowdAt_11 (by decide) (fun c11 => ?_) (fun c11 => ?_)
    · replace h := ipos c11 h
      refine lv_iload_n C.1 C.2.1 dX12_crowdAt_38 rfl (lv_at hl 2 rfl) ?_
      rw [← Option.some.inj h]
      exact rtI C X dX12_crowdAt_39
    · replace h := ineg c11 h
      refine lv_iload_n C.1 C.2.1 dX12_crowdAt_14 rfl (lv_at hl 2 rfl) ?_
      refine lv_aload_n C.1 C.2.1 dX12_crowdAt_15 rfl (lv_at hl 0 rfl) ?_
      refine lv_iload_n C.1 C.2.1 dX12_crowdAt_16 rfl (lv_at hl 3 rfl) ?_
      refine lv_iconst (v := 0) C.1 C.2.1 dX12_crowdAt_17 (by decide) ?_
      obtain ⟨r18, e18, h⟩ := bnd h
      refine afI X (runV C G X q_X12_ofWalker k_1915 kp_60 k_1913 (rcX12 G X kd_399) (c_X12_ofWalker l E e18) rfl hl.1 rfl (Nat.le_of_ble_eq_true rfl) ⟨Nat.le_of_ble_eq_true rfl, Nat.le_of_ble_eq_true rfl⟩ ⟨Nat.le_of_ble_eq_true rfl, Nat.le_of_ble_eq_true rfl⟩ dX12_crowdAt_18) (fun H locs X => ?_)
      refine lv_iload_n C.1 C.2.1 dX12_crowdAt_21 rfl (lv_at hl 1 rfl) ?_
      refine lv_icmp_ne (tgt := 29) C.1 C.2.1 dX12_crowdAt_22 (by decide) (fun c22 => ?_) (fun c22 => ?_)
      · replace h := ineg c22 h
        refine lv_iconst (v := 0) C.1 C.2.1 dX12_crowdAt_29 (by decide) ?_
        exact w_X12_crowdAt_30 C G ih X (lv_sub hl [0, 1, 3] rfl) h
      · replace h := ipos c22 h
        refine lv_iconst (v := 1) C.1 C.2.1 dX12_crowdAt_25 (by decide) ?_
        refine lv_goto (tgt := 30) C.1 C.2.1 dX12_crowdAt_26 (by decide) ?_
        exact w_X12_crowdAt_30 C G ih X (lv_sub hl [0, 1, 3] rfl) h

set_option maxRecDepth 20000 in
theorem w_X12_crowdAt {r : Int32} {σ : Mem} {x1 : Int32} {ls : Array Slot} {H : Heap} {locs : List Loc} (C : Cx p s m args meth c cX12_crowdAt (some .int) 4 RX12) (G : Gf E s) (X : Hx E σ s H locs) (hl : lv_has ls 4 [(0, .ref (gB E + 399)), (1, .int x1)]) (h : X12_crowdAt σ x1 = some r) : W p l e (RM 2) s m args below meth c H locs 0 0 (QI E below args s r σ) (F0 m 0 ls []) := by
  rw [X12_crowdAt] at h
  refine lv_iconst (v := 0) C.1 C.2.1 dX12_crowdAt_0 (by decide) ?_
  refine lv_istore_n (lv' := [(2, .int (0 : Int32)), (0, .ref (gB E + 399)), (1, .int x1)]) C.1 C.2.1 dX12_crowdAt_1 rfl hl (by decide) rfl (fun ls hl => ?_)
  refine lv_iconst (v := 0) C.1 C.2.1 dX12_crowdAt_2 (by decide) ?_
  refine lv_istore_n (lv' := [(3, .int (0 : Int32)), (2, .int (0 : Int32)), (0, .ref (gB E + 399)), (1, .int x1)]) C.1 C.2.1 dX12_crowdAt_3 rfl hl (by decide) rfl (fun ls hl => ?_)
  exact w_X12_crowdAt_4 C G FU X (lv_sub hl [2, 3, 1, 0] rfl) h

theorem c_X12_crowdAt (l : Launch) (E : GE) {σ : Mem} {x1 : Int32} {r : Int32} (h : X12_crowdAt σ x1 = some r) : CtI l E yX12_crowdAt cX12_crowdAt 4 .int 2 [.ref (gB E + 399), .int x1] σ r σ := by
  refine Met.ofW (cc := cX12_crowdAt) (maxL := 4) (ret := (some .int)) (by decide) rfl ?_
  intro p e s m args below meth c s₁ B hml hv
  obtain ⟨rfl, G, X⟩ := start hv
  have C := cxof B hml
  have hl := lv_entry [.ref (gB E + 399), .int x1] (n := 4) (Nat.le_of_ble_eq_true rfl)
  rw [lg_entry_eq]
  generalize (lg_sl [.ref (gB E + 399), .int x1] ++ List.replicate (4 - (lg_sl [.ref (gB E + 399), .int x1]).length) Slot.unset).toArray = ls at hl ⊢
  exact w_X12_crowdAt C G X hl h

set_option maxRecDepth 20000 in
theorem w_X12_crowd_46 {r : (Int32 × Mem)} {σ : Mem} {rc9 : Int32 → Int32 → Mem → Option (Int32 × Mem)} {x2 : Int32} {ls : Array Slot} {H : Heap} {locs : List Loc} (C : Cx p s m args meth c cX12_crowd (some .int) 3 RX12) (G : Gf E s) (hr9 : ∀ {x1 : Int32} {x2 : Int32} {σ : Mem} {ls : Array Slot} {H : Heap} {locs : List Loc}, Hx E σ s H locs → lv_has ls 3 [(0, .ref (gB E + 399)), (1, .int x1), (2, .int x2)] → rc9 x1 x2 σ = some r → W p l e (RM 3) s m args below meth c H locs 0 0 (QI E below args s r.1 r.2) (F0 m 9 ls [])) (X : Hx E σ s H locs) (hl : lv_has ls 3 [(0, .ref (gB E + 399)), (2, .int x2)]) (h : X12_crowd_46 rc9 x2 σ = some r) : W p l e (RM 3) s m args below meth c H locs 0 0 (QI E below args s r.1 r.2) (F0 m 46 ls []) := by
  rw [X12_crowd_46] at h
  refine lv_iload_n C.1 C.2.1 dX12_crowd_46 rfl (lv_at hl 1 rfl) ?_
  refine lv_istore_n (lv' := [(1, .int x2), (0, .ref (gB E + 399)), (2, .int x2)]) C.1 C.2.1 dX12_crowd_47 rfl hl (by decide) rfl (fun ls hl => ?_)
  refine lv_iinc (v := (x2 + 1)) (lv' := [(2, .int (x2 + 1)), (1, .int x2), (0, .ref (gB E + 399))]) C.1 C.2.1 dX12_crowd_48 hl (k := 2) rfl rfl (by decide) rfl (fun ls hl => ?_)
  refine lv_goto (tgt := 9) C.1 C.2.1 dX12_crowd_51 (by decide) ?_
  exact hr9 X (lv_sub hl [2, 1, 0] rfl) h

set_option maxRecDepth 20000 in
theorem w_X12_crowd_9 {r : (Int32 × Mem)} (C : Cx p s m args meth c cX12_crowd (some .int) 3 RX12) (G : Gf E s) : ∀ (f : Nat) {x1 : Int32} {x2 : Int32} {σ : Mem} {ls : Array Slot} {H : Heap} {locs : List Loc}, Hx E σ s H locs → lv_has ls 3 [(0, .ref (gB E + 399)), (1, .int x1), (2, .int x2)] → X12_crowd_9 f x1 x2 σ = some r → W p l e (RM 3) s m args below meth c H locs 0 0 (QI E below args s r.1 r.2) (F0 m 9 ls []) := by
  intro f
  induction f with
  | zero =>
    intro x1 x2 σ ls H locs X hl h
    rw [X12_crowd_9] at h
    cases h
  | succ f ih =>
    intro x1 x2 σ ls H locs X hl h
    rw [X12_crowd_9] at h
    refine lv_iload_n C.1 C.2.1 dX12_crowd_9 rfl (lv_at hl 2 rfl) ?_
    refine lv_aload_n C.1 C.2.1 dX12_crowd_10 rfl (lv_at hl 0 rfl) ?_
    refine gfX12 C G X (k := 399) kd_399 1 (v := .ref (gB E + 400)) rfl rfl (by decide) k_1652 rfl dX12_crowd_11 ?_
    refine lv_iconst (v := 3) C.1 C.2.1 dX12_crowd_14 (by decide) ?_
    obtain ⟨r15, e15, h⟩ := bnd h
    refine ald C G X (k := 400) kd_400 (ag_s e15).1 dX12_crowd_15 ?_
    rw [(ag_s e15).2]
    refine lv_icmp_ge (tgt := 54) C.1 C.2.1 dX12_crowd_16 (by decide) (fun c16 => ?_) (fun c16 => ?_)
    · replace h := ipos c16 h
      refine lv_iload_n C.1 C.2.1 dX12_crowd_54 rfl (lv_at hl 1 rfl) ?_
      rw [← Option.some.inj h]
      exact rtI C X dX12_crowd_55
    · replace h := ineg c16 h
      refine lv_aload_n C.1 C.2.1 dX12_crowd_19 rfl (lv_at hl 0 rfl) ?_
      refine gfX12 C G X (k := 399) kd_399 1 (v := .ref (gB E + 400)) rfl rfl (by decide) k_1652 rfl dX12_crowd_20 ?_
      refine lv_iconst (v := 4) C.1 C.2.1 dX12_crowd_23 (by decide) ?_
      obtain ⟨r24, e24, h⟩ := bnd h
      refine ald C G X (k := 400) kd_400 (ag_s e24).1 dX12_crowd_24 ?_
      rw [(ag_s e24).2]
      refine lv_if_le (tgt := 54) C.1 C.2.1 dX12_crowd_25 (by decide) (fun c25 => ?_) (fun c25 => ?_)
      · replace h := ipos c25 h
        refine lv_iload_n C.1 C.2.1 dX12_crowd_54 rfl (lv_at hl 1 rfl) ?_
        rw [← Option.some.inj h]
        exact rtI C X dX12_crowd_55
      · replace h := ineg c25 h
        refine lv_iload_n C.1 C.2.1 dX12_crowd_28 rfl (lv_at hl 1 rfl) ?_
        refine lv_iconst (v := -1) C.1 C.2.1 dX12_crowd_29 (by decide) ?_
        refine lv_icmp_eq (tgt := 46) C.1 C.2.1 dX12_crowd_30 (by decide) (fun c30 => ?_) (fun c30 => ?_)
        · replace h := ipos c30 h
          exact w_X12_crowd_46 C G ih X (lv_sub hl [0, 2] rfl) h
        · replace h := ineg c30 h
          refine lv_aload_n C.1 C.2.1 dX12_crowd_33 rfl (lv_at hl 0 rfl) ?_
          refine lv_iload_n C.1 C.2.1 dX12_crowd_34 rfl (lv_at hl 2 rfl) ?_
          obtain ⟨r35, e35, h⟩ := bnd h
          refine afI X (runV C G X q_X12_crowdAt k_2238 kp_99 k_2236 (rcX12 G X kd_399) (c_X12_crowdAt l E e35) rfl hl.1 rfl (Nat.le_of_ble_eq_true rfl) ⟨Nat.le_of_ble_eq_true rfl, Nat.le_of_ble_eq_true rfl⟩ ⟨Nat.le_of_ble_eq_true rfl, Nat.le_of_ble_eq_true rfl⟩ dX12_crowd_35) (fun H locs X => ?_)
          refine lv_aload_n C.1 C.2.1 dX12_crowd_38 rfl (lv_at hl 0 rfl) ?_
          refine lv_iload_n C.1 C.2.1 dX12_crowd_39 rfl (lv_at hl 1 rfl) ?_
          obtain ⟨r40, e40, h⟩ := bnd h
          refine afI X (runV C G X q_X12_crowdAt k_2238 kp_99 k_2236 (rcX12 G X kd_399) (c_X12_crowdAt l E e40) rfl hl.1 rfl (Nat.le_of_ble_eq_true rfl) ⟨Nat.le_of_ble_eq_true rfl, Nat.le_of_ble_eq_true rfl⟩ ⟨Nat.le_of_ble_eq_true rfl, Nat.le_of_ble_eq_true rfl⟩ dX12_crowd_40) (fun H locs X => ?_)
          refine lv_icmp_le (tgt := 48) C.1 C.2.1 dX12_crowd_43 (by decide) (fun c43 => ?_) (fun c43 => ?_)
          · replace h := ipos c43 h
            refine lv_iinc (v := (x2 + 1)) (lv' := [(2, .int (x2 + 1)), (0, .ref (gB E + 399)), (1, .int x1)]) C.1 C.2.1 dX12_crowd_48 hl (k := 2) rfl rfl (by decide) rfl (fun ls hl => ?_)
            refine lv_goto (tgt := 9) C.1 C.2.1 dX12_crowd_51 (by decide) ?_
            exact ih X (lv_sub hl [1, 2, 0] rfl) h
          · replace h := ineg c43 h
            exact w_X12_crowd_46 C G ih X (lv_sub hl [0, 2] rfl) h

set_option maxRecDepth 20000 in
theorem w_X12_crowd {r : (Int32 × Mem)} {σ : Mem} {ls : Array Slot} {H : Heap} {locs : List Loc} (C : Cx p s m args meth c cX12_crowd (some .int) 3 RX12) (G : Gf E s) (X : Hx E σ s H locs) (hl : lv_has ls 3 [(0, .ref (gB E + 399))]) (h : X12_crowd σ = some r) : W p l e (RM 3) s m args below meth c H locs 0 0 (QI E below args s r.1 r.2) (F0 m 0 ls []) := by
  rw [X12_crowd] at h
  refine lv_aload_n C.1 C.2.1 dX12_crowd_0 rfl (lv_at hl 0 rfl) ?_
  refine lv_iconst (v := 0) C.1 C.2.1 dX12_crowd_1 (by decide) ?_
  obtain ⟨σ2, e2, h⟩ := bnd h
  refine pfX12 C G X (k := 399) kd_399 0 (x := (0 : Int32)) (ty := .int) rfl rfl (Nat.le_of_ble_eq_true rfl) (by decide) k_1651 rfl rfl (by decide +kernel) rfl rfl dX12_crowd_2 (fun H locs X => ?_)
  replace X := pu_x e2 X
  refine lv_iconst (v := -1) C.1 C.2.1 dX12_crowd_5 (by decide) ?_
  refine lv_istore_n (lv' := [(1, .int (-1 : Int32)), (0, .ref (gB E + 399))]) C.1 C.2.1 dX12_crowd_6 rfl hl (by decide) rfl (fun ls hl => ?_)
  refine lv_iconst (v := 0) C.1 C.2.1 dX12_crowd_7 (by decide) ?_
  refine lv_istore_n (lv' := [(2, .int (0 : Int32)), (1, .int (-1 : Int32)), (0, .ref (gB E + 399))]) C.1 C.2.1 dX12_crowd_8 rfl hl (by decide) rfl (fun ls hl => ?_)
  exact w_X12_crowd_9 C G FU X (lv_sub hl [2, 1, 0] rfl) h

theorem c_X12_crowd (l : Launch) (E : GE) {σ : Mem} {r : (Int32 × Mem)} (h : X12_crowd σ = some r) : CtI l E yX12_crowd cX12_crowd 3 .int 3 [.ref (gB E + 399)] σ r.1 r.2 := by
  refine Met.ofW (cc := cX12_crowd) (maxL := 3) (ret := (some .int)) (by decide) rfl ?_
  intro p e s m args below meth c s₁ B hml hv
  obtain ⟨rfl, G, X⟩ := start hv
  have C := cxof B hml
  have hl := lv_entry [.ref (gB E + 399)] (n := 3) (Nat.le_of_ble_eq_true rfl)
  rw [lg_entry_eq]
  generalize (lg_sl [.ref (gB E + 399)] ++ List.replicate (3 - (lg_sl [.ref (gB E + 399)]).length) Slot.unset).toArray = ls at hl ⊢
  exact w_X12_crowd C G X hl h

set_option maxRecDepth 20000 in
theorem w_X12_alike_69 {r : (Int32 × Mem)} {σ : Mem} {rc9 : Int32 → Int32 → Mem → Option (Int32 × Mem)} {rc23 : Int32 → Int32 → Int32 → Mem → Option (Int32 × Mem)} {x2 : Int32} {x3 : Int32} {y0 : Int32} {y1 : Int32} {ls : Array Slot} {H : Heap} {locs : List Loc} (C : Cx p s m args meth c cX12_alike (some .int) 4 RX12) (G : Gf E s) (hr9 : ∀ {x1 : Int32} {x2 : Int32} {σ : Mem} {ls : Array Slot} {H : Heap} {locs : List Loc}, Hx E σ s H locs → lv_has ls 4 [(0, .ref (gB E + 399)), (1, .int x1), (2, .int x2)] → rc9 x1 x2 σ = some r → W p l e (RM 2) s m args below meth c H locs 0 0 (QI E below args s r.1 r.2) (F0 m 9 ls [])) (hr23 : ∀ {x1 : Int32} {x2 : Int32} {x3 : Int32} {σ : Mem} {ls : Array Slot} {H : Heap} {locs : List Loc}, Hx E σ s H locs → lv_has ls 4 [(0, .ref (gB E + 399)), (1, .int x1), (2, .int x2), (3, .int x3)] → rc23 x1 x2 x3 σ = some r → W p l e (RM 2) s m args below meth c H locs 0 0 (QI E below args s r.1 r.2) (F0 m 23 ls [])) (X : Hx E σ s H locs) (hl : lv_has ls 4 [(0, .ref (gB E + 399)), (2, .int x2), (3, .int x3)]) (h : X12_alike_69 rc9 rc23 x2 x3 y0 y1 σ = some r) : W p l e (RM 2) s m args below meth c H locs 0 0 (QI E below args s r.1 r.2) (F0 m 69 ls [.int y1, .int y0]) := by
  rw [X12_alike_69] at h
  refine lv_iadd C.1 C.2.1 dX12_alike_69 ?_
  refine lv_istore_n (lv' := [(1, .int (y0 + y1)), (0, .ref (gB E + 399)), (2, .int x2), (3, .int x3)]) C.1 C.2.1 dX12_alike_70 rfl hl (by decide) rfl (fun ls hl => ?_)
  refine lv_iinc (v := (x3 + 1)) (lv' := [(3, .int (x3 + 1)), (1, .int (y0 + y1)), (0, .ref (gB E + 399)), (2, .int x2)]) C.1 C.2.1 dX12_alike_71 hl (k := 3) rfl rfl (by decide) rfl (fun ls hl => ?_)
  refine lv_goto (tgt := 23) C.1 C.2.1 dX12_alike_74 (by decide) ?_
  exact hr23 X (lv_sub hl [2, 1, 3, 0] rfl) h

set_option maxRecDepth 20000 in
theorem w_X12_alike_68 {r : (Int32 × Mem)} {σ : Mem} {rc9 : Int32 → Int32 → Mem → Option (Int32 × Mem)} {rc23 : Int32 → Int32 → Int32 → Mem → Option (Int32 × Mem)} {x2 : Int32} {x3 : Int32} {y0 : Int32} {ls : Array Slot} {H : Heap} {locs : List Loc} (C : Cx p s m args meth c cX12_alike (some .int) 4 RX12) (G : Gf E s) (hr9 : ∀ {x1 : Int32} {x2 : Int32} {σ : Mem} {ls : Array Slot} {H : Heap} {locs : List Loc}, Hx E σ s H locs → lv_has ls 4 [(0, .ref (gB E + 399)), (1, .int x1), (2, .int x2)] → rc9 x1 x2 σ = some r → W p l e (RM 2) s m args below meth c H locs 0 0 (QI E below args s r.1 r.2) (F0 m 9 ls [])) (hr23 : ∀ {x1 : Int32} {x2 : Int32} {x3 : Int32} {σ : Mem} {ls : Array Slot} {H : Heap} {locs : List Loc}, Hx E σ s H locs → lv_has ls 4 [(0, .ref (gB E + 399)), (1, .int x1), (2, .int x2), (3, .int x3)] → rc23 x1 x2 x3 σ = some r → W p l e (RM 2) s m args below meth c H locs 0 0 (QI E below args s r.1 r.2) (F0 m 23 ls [])) (X : Hx E σ s H locs) (hl : lv_has ls 4 [(0, .ref (gB E + 399)), (2, .int x2), (3, .int x3)]) (h : X12_alike_68 rc9 rc23 x2 x3 y0 σ = some r) : W p l e (RM 2) s m args below meth c H locs 0 0 (QI E below args s r.1 r.2) (F0 m 68 ls [.int y0]) := by
  rw [X12_alike_68] at h
  refine lv_iconst (v := 0) C.1 C.2.1 dX12_alike_68 (by decide) ?_
  exact w_X12_alike_69 C G hr9 hr23 X (lv_sub hl [0, 1, 2] rfl) h

set_option maxRecDepth 20000 in
theorem w_X12_alike_23 {r : (Int32 × Mem)} {rc9 : Int32 → Int32 → Mem → Option (Int32 × Mem)} (C : Cx p s m args meth c cX12_alike (some .int) 4 RX12) (G : Gf E s) (hr9 : ∀ {x1 : Int32} {x2 : Int32} {σ : Mem} {ls : Array Slot} {H : Heap} {locs : List Loc}, Hx E σ s H locs → lv_has ls 4 [(0, .ref (gB E + 399)), (1, .int x1), (2, .int x2)] → rc9 x1 x2 σ = some r → W p l e (RM 2) s m args below meth c H locs 0 0 (QI E below args s r.1 r.2) (F0 m 9 ls [])) : ∀ (f : Nat) {x1 : Int32} {x2 : Int32} {x3 : Int32} {σ : Mem} {ls : Array Slot} {H : Heap} {locs : List Loc}, Hx E σ s H locs → lv_has ls 4 [(0, .ref (gB E + 399)), (1, .int x1), (2, .int x2), (3, .int x3)] → X12_alike_23 rc9 f x1 x2 x3 σ = some r → W p l e (RM 2) s m args below meth c H locs 0 0 (QI E below args s r.1 r.2) (F0 m 23 ls []) := by
  intro f
  induction f with
  | zero =>
    intro x1 x2 x3 σ ls H locs X hl h
    rw [X12_alike_23] at h
    cases h
  | succ f ih =>
    intro x1 x2 x3 σ ls H locs X hl h
    rw [X12_alike_23] at h
    refine lv_iload_n C.1 C.2.1 dX12_alike_23 rfl (lv_at hl 3 rfl) ?_
    refine lv_aload_n C.1 C.2.1 dX12_alike_24 rfl (lv_at hl 0 rfl) ?_
    refine gfX12 C G X (k := 399) kd_399 1 (v := .ref (gB E + 400)) rfl rfl (by decide) k_1652 rfl dX12_alike_25 ?_
    refine lv_iconst (v := 4) C.1 C.2.1 dX12_alike_28 (by decide) ?_
    obtain ⟨r29, e29, h⟩ := bnd h
    refine ald C G X (k := 400) kd_400 (ag_s e29).1 dX12_alike_29 ?_
    rw [(ag_s e29).2]
    refine lv_icmp_ge (tgt := 77) C.1 C.2.1 dX12_alike_30 (by decide) (fun c30 => ?_) (fun c30 => ?_)
    · replace h := ipos c30 h
      refine lv_iinc (v := (x2 + 1)) (lv' := [(2, .int (x2 + 1)), (0, .ref (gB E + 399)), (1, .int x1), (3, .int x3)]) C.1 C.2.1 dX12_alike_77 hl (k := 2) rfl rfl (by decide) rfl (fun ls hl => ?_)
      refine lv_goto (tgt := 9) C.1 C.2.1 dX12_alike_80 (by decide) ?_
      exact hr9 X (lv_sub hl [1, 2, 0] rfl) h
    · replace h := ineg c30 h
      refine lv_iload_n C.1 C.2.1 dX12_alike_33 rfl (lv_at hl 1 rfl) ?_
      refine lv_aload_n C.1 C.2.1 dX12_alike_34 rfl (lv_at hl 0 rfl) ?_
      refine lv_iload_n C.1 C.2.1 dX12_alike_35 rfl (lv_at hl 2 rfl) ?_
      refine lv_iconst (v := 1) C.1 C.2.1 dX12_alike_36 (by decide) ?_
      obtain ⟨r37, e37, h⟩ := bnd h
      refine afI X (runV C G X q_X12_ofWalker k_1915 kp_60 k_1913 (rcX12 G X kd_399) (c_X12_ofWalker l E e37) rfl hl.1 rfl (Nat.le_of_ble_eq_true rfl) ⟨Nat.le_of_ble_eq_true rfl, Nat.le_of_ble_eq_true rfl⟩ ⟨Nat.le_of_ble_eq_true rfl, Nat.le_of_ble_eq_true rfl⟩ dX12_alike_37) (fun H locs X => ?_)
      refine lv_aload_n C.1 C.2.1 dX12_alike_40 rfl (lv_at hl 0 rfl) ?_
      refine lv_iload_n C.1 C.2.1 dX12_alike_41 rfl (lv_at hl 3 rfl) ?_
      refine lv_iconst (v := 1) C.1 C.2.1 dX12_alike_42 (by decide) ?_
      obtain ⟨r43, e43, h⟩ := bnd h
      refine afI X (runV C G X q_X12_ofWalker k_1915 kp_60 k_1913 (rcX12 G X kd_399) (c_X12_ofWalker l E e43) rfl hl.1 rfl (Nat.le_of_ble_eq_true rfl) ⟨Nat.le_of_ble_eq_true rfl, Nat.le_of_ble_eq_true rfl⟩ ⟨Nat.le_of_ble_eq_true rfl, Nat.le_of_ble_eq_true rfl⟩ dX12_alike_43) (fun H locs X => ?_)
      refine lv_icmp_ne (tgt := 68) C.1 C.2.1 dX12_alike_46 (by decide) (fun c46 => ?_) (fun c46 => ?_)
      · replace h := ineg c46 h
        exact w_X12_alike_68 C G hr9 ih X (lv_sub hl [0, 2, 3] rfl) h
      · replace h := ipos c46 h
        refine lv_aload_n C.1 C.2.1 dX12_alike_49 rfl (lv_at hl 0 rfl) ?_
        refine lv_iload_n C.1 C.2.1 dX12_alike_50 rfl (lv_at hl 2 rfl) ?_
        refine lv_iconst (v := 0) C.1 C.2.1 dX12_alike_51 (by decide) ?_
        obtain ⟨r52, e52, h⟩ := bnd h
        refine afI X (runV C G X q_X12_ofWalker k_1915 kp_60 k_1913 (rcX12 G X kd_399) (c_X12_ofWalker l E e52) rfl hl.1 rfl (Nat.le_of_ble_eq_true rfl) ⟨Nat.le_of_ble_eq_true rfl, Nat.le_of_ble_eq_true rfl⟩ ⟨Nat.le_of_ble_eq_true rfl, Nat.le_of_ble_eq_true rfl⟩ dX12_alike_52) (fun H locs X => ?_)
        refine lv_aload_n C.1 C.2.1 dX12_alike_55 rfl (lv_at hl 0 rfl) ?_
        refine lv_iload_n C.1 C.2.1 dX12_alike_56 rfl (lv_at hl 3 rfl) ?_
        refine lv_iconst (v := 0) C.1 C.2.1 dX12_alike_57 (by decide) ?_
        obtain ⟨r58, e58, h⟩ := bnd h
        refine afI X (runV C G X q_X12_ofWalker k_1915 kp_60 k_1913 (rcX12 G X kd_399) (c_X12_ofWalker l E e58) rfl hl.1 rfl (Nat.le_of_ble_eq_true rfl) ⟨Nat.le_of_ble_eq_true rfl, Nat.le_of_ble_eq_true rfl⟩ ⟨Nat.le_of_ble_eq_true rfl, Nat.le_of_ble_eq_true rfl⟩ dX12_alike_58) (fun H locs X => ?_)
        refine lv_icmp_ne (tgt := 68) C.1 C.2.1 dX12_alike_61 (by decide) (fun c61 => ?_) (fun c61 => ?_)
        · replace h := ineg c61 h
          exact w_X12_alike_68 C G hr9 ih X (lv_sub hl [0, 2, 3] rfl) h
        · replace h := ipos c61 h
          refine lv_iconst (v := 1) C.1 C.2.1 dX12_alike_64 (by decide) ?_
          refine lv_goto (tgt := 69) C.1 C.2.1 dX12_alike_65 (by decide) ?_
          exact w_X12_alike_69 C G hr9 ih X (lv_sub hl [0, 2, 3] rfl) h

set_option maxRecDepth 20000 in
theorem w_X12_alike_9 {r : (Int32 × Mem)} (C : Cx p s m args meth c cX12_alike (some .int) 4 RX12) (G : Gf E s) : ∀ (f : Nat) {x1 : Int32} {x2 : Int32} {σ : Mem} {ls : Array Slot} {H : Heap} {locs : List Loc}, Hx E σ s H locs → lv_has ls 4 [(0, .ref (gB E + 399)), (1, .int x1), (2, .int x2)] → X12_alike_9 f x1 x2 σ = some r → W p l e (RM 2) s m args below meth c H locs 0 0 (QI E below args s r.1 r.2) (F0 m 9 ls []) := by
  intro f
  induction f with
  | zero =>
    intro x1 x2 σ ls H locs X hl h
    rw [X12_alike_9] at h
    cases h
  | succ f ih =>
    intro x1 x2 σ ls H locs X hl h
    rw [X12_alike_9] at h
    refine lv_iload_n C.1 C.2.1 dX12_alike_9 rfl (lv_at hl 2 rfl) ?_
    refine lv_aload_n C.1 C.2.1 dX12_alike_10 rfl (lv_at hl 0 rfl) ?_
    refine gfX12 C G X (k := 399) kd_399 1 (v := .ref (gB E + 400)) rfl rfl (by decide) k_1652 rfl dX12_alike_11 ?_
    refine lv_iconst (v := 4) C.1 C.2.1 dX12_alike_14 (by decide) ?_
    obtain ⟨r15, e15, h⟩ := bnd h
    refine ald C G X (k := 400) kd_400 (ag_s e15).1 dX12_alike_15 ?_
    rw [(ag_s e15).2]
    refine lv_icmp_ge (tgt := 83) C.1 C.2.1 dX12_alike_16 (by decide) (fun c16 => ?_) (fun c16 => ?_)
    · replace h := ipos c16 h
      refine lv_iload_n C.1 C.2.1 dX12_alike_83 rfl (lv_at hl 1 rfl) ?_
      rw [← Option.some.inj h]
      exact rtI C X dX12_alike_84
    · replace h := ineg c16 h
      refine lv_iload_n C.1 C.2.1 dX12_alike_19 rfl (lv_at hl 2 rfl) ?_
      refine lv_iconst (v := 1) C.1 C.2.1 dX12_alike_20 (by decide) ?_
      refine lv_iadd C.1 C.2.1 dX12_alike_21 ?_
      refine lv_istore_n (lv' := [(3, .int (x2 + (1 : Int32))), (0, .ref (gB E + 399)), (1, .int x1), (2, .int x2)]) C.1 C.2.1 dX12_alike_22 rfl hl (by decide) rfl (fun ls hl => ?_)
      exact w_X12_alike_23 C G ih FU X (lv_sub hl [1, 2, 3, 0] rfl) h

set_option maxRecDepth 20000 in
theorem w_X12_alike {r : (Int32 × Mem)} {σ : Mem} {ls : Array Slot} {H : Heap} {locs : List Loc} (C : Cx p s m args meth c cX12_alike (some .int) 4 RX12) (G : Gf E s) (X : Hx E σ s H locs) (hl : lv_has ls 4 [(0, .ref (gB E + 399))]) (h : X12_alike σ = some r) : W p l e (RM 2) s m args below meth c H locs 0 0 (QI E below args s r.1 r.2) (F0 m 0 ls []) := by
  rw [X12_alike] at h
  refine lv_aload_n C.1 C.2.1 dX12_alike_0 rfl (lv_at hl 0 rfl) ?_
  refine lv_iconst (v := 0) C.1 C.2.1 dX12_alike_1 (by decide) ?_
  obtain ⟨σ2, e2, h⟩ := bnd h
  refine pfX12 C G X (k := 399) kd_399 0 (x := (0 : Int32)) (ty := .int) rfl rfl (Nat.le_of_ble_eq_true rfl) (by decide) k_1651 rfl rfl (by decide +kernel) rfl rfl dX12_alike_2 (fun H locs X => ?_)
  replace X := pu_x e2 X
  refine lv_iconst (v := 0) C.1 C.2.1 dX12_alike_5 (by decide) ?_
  refine lv_istore_n (lv' := [(1, .int (0 : Int32)), (0, .ref (gB E + 399))]) C.1 C.2.1 dX12_alike_6 rfl hl (by decide) rfl (fun ls hl => ?_)
  refine lv_iconst (v := 0) C.1 C.2.1 dX12_alike_7 (by decide) ?_
  refine lv_istore_n (lv' := [(2, .int (0 : Int32)), (1, .int (0 : Int32)), (0, .ref (gB E + 399))]) C.1 C.2.1 dX12_alike_8 rfl hl (by decide) rfl (fun ls hl => ?_)
  exact w_X12_alike_9 C G FU X (lv_sub hl [2, 1, 0] rfl) h

theorem c_X12_alike (l : Launch) (E : GE) {σ : Mem} {r : (Int32 × Mem)} (h : X12_alike σ = some r) : CtI l E yX12_alike cX12_alike 4 .int 2 [.ref (gB E + 399)] σ r.1 r.2 := by
  refine Met.ofW (cc := cX12_alike) (maxL := 4) (ret := (some .int)) (by decide) rfl ?_
  intro p e s m args below meth c s₁ B hml hv
  obtain ⟨rfl, G, X⟩ := start hv
  have C := cxof B hml
  have hl := lv_entry [.ref (gB E + 399)] (n := 4) (Nat.le_of_ble_eq_true rfl)
  rw [lg_entry_eq]
  generalize (lg_sl [.ref (gB E + 399)] ++ List.replicate (4 - (lg_sl [.ref (gB E + 399)]).length) Slot.unset).toArray = ls at hl ⊢
  exact w_X12_alike C G X hl h

set_option maxRecDepth 20000 in
theorem w_X12_ahead_85 {r : (Int32 × Mem)} {σ : Mem} {y1 : Int32} {y2 : Int32} {ls : Array Slot} {H : Heap} {locs : List Loc} (C : Cx p s m args meth c cX12_ahead (some .int) 6 RX12) (G : Gf E s) (X : Hx E σ s H locs) (hl : lv_has ls 6 [(0, .ref (gB E + 399))]) (h : X12_ahead_85 y1 y2 σ = some r) : W p l e (RM 208) s m args below meth c H locs 0 0 (QI E below args s r.1 r.2) (F0 m 85 ls [.int y2, .int y1, .ref (gB E + 399)]) := by
  rw [X12_ahead_85] at h
  obtain ⟨r85, e85, h⟩ := bnd h
  refine afI X (runV C G X q_X12_of k_1855 kp_49 k_1853 (rcX12 G X kd_399) (c_X12_of l E e85) rfl hl.1 rfl (Nat.le_of_ble_eq_true rfl) ⟨Nat.le_of_ble_eq_true rfl, Nat.le_of_ble_eq_true rfl⟩ ⟨Nat.le_of_ble_eq_true rfl, Nat.le_of_ble_eq_true rfl⟩ dX12_ahead_85) (fun H locs X => ?_)
  refine lv_istore (lv' := [(5, .int r85), (0, .ref (gB E + 399))]) C.1 C.2.1 dX12_ahead_88 hl (by decide) rfl (fun ls hl => ?_)
  refine lv_aload_n C.1 C.2.1 dX12_ahead_90 rfl (lv_at hl 1 rfl) ?_
  obtain ⟨σ91, e91, h⟩ := bnd h
  refine afV X (runV C G X q_X12_comesBack k_1875 kp_53 k_1873 (rcX12 G X kd_399) (c_X12_comesBack l E e91) rfl hl.1 rfl (Nat.le_of_ble_eq_true rfl) ⟨Nat.le_of_ble_eq_true rfl, Nat.le_of_ble_eq_true rfl⟩ ⟨Nat.le_of_ble_eq_true rfl, Nat.le_of_ble_eq_true rfl⟩ dX12_ahead_91) (fun H locs X => ?_)
  refine lv_iload C.1 C.2.1 dX12_ahead_94 (lv_at hl 0 rfl) ?_
  rw [← Option.some.inj h]
  exact rtI C X dX12_ahead_96

set_option maxRecDepth 20000 in
theorem w_X12_ahead_41 {r : (Int32 × Mem)} {σ : Mem} {x1 : Int32} {x2 : Int32} {x3 : Int32} {y1 : Int32} {ls : Array Slot} {H : Heap} {locs : List Loc} (C : Cx p s m args meth c cX12_ahead (some .int) 6 RX12) (G : Gf E s) (X : Hx E σ s H locs) (hl : lv_has ls 6 [(0, .ref (gB E + 399)), (1, .int x1), (2, .int x2), (3, .int x3)]) (h : X12_ahead_41 x1 x2 x3 y1 σ = some r) : W p l e (RM 208) s m args below meth c H locs 0 0 (QI E below args s r.1 r.2) (F0 m 41 ls [.int y1, .ref (gB E + 399)]) := by
  rw [X12_ahead_41] at h
  obtain ⟨σ41, e41, h⟩ := bnd h
  refine pfX12 C G X (k := 399) kd_399 0 (x := y1) (ty := .int) rfl rfl (Nat.le_of_ble_eq_true rfl) (by decide) k_1651 rfl rfl (by decide +kernel) rfl rfl dX12_ahead_41 (fun H locs X => ?_)
  replace X := pu_x e41 X
  refine lv_aload_n C.1 C.2.1 dX12_ahead_44 rfl (lv_at hl 0 rfl) ?_
  refine gfX12 C G X (k := 399) kd_399 0 (v := .int (σ41 399 0)) rfl rfl (by decide) k_1651 rfl dX12_ahead_45 ?_
  refine lv_if_le (tgt := 53) C.1 C.2.1 dX12_ahead_48 (by decide) (fun c48 => ?_) (fun c48 => ?_)
  · replace h := ipos c48 h
    refine lv_aload_n C.1 C.2.1 dX12_ahead_53 rfl (lv_at hl 0 rfl) ?_
    obtain ⟨σ54, e54, h⟩ := bnd h
    refine afV X (runV C G X q_X12_putsAside k_1742 kp_26 k_1740 (rcX12 G X kd_399) (c_X12_putsAside l E e54) rfl hl.1 rfl (Nat.le_of_ble_eq_true rfl) ⟨Nat.le_of_ble_eq_true rfl, Nat.le_of_ble_eq_true rfl⟩ ⟨Nat.le_of_ble_eq_true rfl, Nat.le_of_ble_eq_true rfl⟩ dX12_ahead_54) (fun H locs X => ?_)
    refine lv_aload_n C.1 C.2.1 dX12_ahead_57 rfl (lv_at hl 0 rfl) ?_
    refine lv_iload_n C.1 C.2.1 dX12_ahead_58 rfl (lv_at hl 2 rfl) ?_
    refine lv_iconst (v := 0) C.1 C.2.1 dX12_ahead_59 (by decide) ?_
    obtain ⟨r60, σ60, e60, h⟩ := bnd2 h
    refine afI (r0 := r60) (σ' := σ60) X (runV C G X q_X12_goes k_2030 kp_80 k_2028 (rcX12 G X kd_399) (c_X12_goes l E e60) rfl hl.1 rfl (Nat.le_of_ble_eq_true rfl) ⟨Nat.le_of_ble_eq_true rfl, Nat.le_of_ble_eq_true rfl⟩ ⟨Nat.le_of_ble_eq_true rfl, Nat.le_of_ble_eq_true rfl⟩ dX12_ahead_60) (fun H locs X => ?_)
    refine lv_istore (lv' := [(4, .int r60), (0, .ref (gB E + 399)), (1, .int x1), (2, .int x2), (3, .int x3)]) C.1 C.2.1 dX12_ahead_63 hl (by decide) rfl (fun ls hl => ?_)
    refine lv_aload_n C.1 C.2.1 dX12_ahead_65 rfl (lv_at hl 1 rfl) ?_
    refine lv_iload_n C.1 C.2.1 dX12_ahead_66 rfl (lv_at hl 2 rfl) ?_
    refine lv_iload_n C.1 C.2.1 dX12_ahead_67 rfl (lv_at hl 4 rfl) ?_
    refine lv_if_ne (tgt := 75) C.1 C.2.1 dX12_ahead_68 (by decide) (fun c68 => ?_) (fun c68 => ?_)
    · replace h := ineg c68 h
      refine lv_iload_n C.1 C.2.1 dX12_ahead_75 rfl (lv_at hl 4 rfl) ?_
      refine lv_iconst (v := 1) C.1 C.2.1 dX12_ahead_76 (by decide) ?_
      refine lv_icmp_ne (tgt := 84) C.1 C.2.1 dX12_ahead_77 (by decide) (fun c77 => ?_) (fun c77 => ?_)
      · replace h := ineg c77 h
        refine lv_iconst (v := 3) C.1 C.2.1 dX12_ahead_84 (by decide) ?_
        exact w_X12_ahead_85 C G X (lv_sub hl [1] rfl) h
      · replace h := ipos c77 h
        refine lv_iconst (v := 1) C.1 C.2.1 dX12_ahead_80 (by decide) ?_
        refine lv_goto (tgt := 85) C.1 C.2.1 dX12_ahead_81 (by decide) ?_
        exact w_X12_ahead_85 C G X (lv_sub hl [1] rfl) h
    · replace h := ipos c68 h
      refine lv_iconst (v := 0) C.1 C.2.1 dX12_ahead_71 (by decide) ?_
      refine lv_goto (tgt := 85) C.1 C.2.1 dX12_ahead_72 (by decide) ?_
      exact w_X12_ahead_85 C G X (lv_sub hl [1] rfl) h
  · replace h := ineg c48 h
    refine lv_iconst (v := 0) C.1 C.2.1 dX12_ahead_51 (by decide) ?_
    rw [← Option.some.inj h]
    exact rtI C X dX12_ahead_52

set_option maxRecDepth 20000 in
theorem w_X12_ahead {r : (Int32 × Mem)} {σ : Mem} {x1 : Int32} {x2 : Int32} {x3 : Int32} {ls : Array Slot} {H : Heap} {locs : List Loc} (C : Cx p s m args meth c cX12_ahead (some .int) 6 RX12) (G : Gf E s) (X : Hx E σ s H locs) (hl : lv_has ls 6 [(0, .ref (gB E + 399)), (1, .int x1), (2, .int x2), (3, .int x3)]) (h : X12_ahead x1 x2 x3 σ = some r) : W p l e (RM 208) s m args below meth c H locs 0 0 (QI E below args s r.1 r.2) (F0 m 0 ls []) := by
  rw [X12_ahead] at h
  refine lv_aload_n C.1 C.2.1 dX12_ahead_0 rfl (lv_at hl 0 rfl) ?_
  refine lv_aload_n C.1 C.2.1 dX12_ahead_1 rfl (lv_at hl 0 rfl) ?_
  refine lv_iload_n C.1 C.2.1 dX12_ahead_2 rfl (lv_at hl 1 rfl) ?_
  obtain ⟨r3, e3, h⟩ := bnd h
  refine afI X (runV C G X q_X12_isPane k_1891 kp_54 k_1889 (rcX12 G X kd_399) (c_X12_isPane l E e3) rfl hl.1 rfl (Nat.le_of_ble_eq_true rfl) ⟨Nat.le_of_ble_eq_true rfl, Nat.le_of_ble_eq_true rfl⟩ ⟨Nat.le_of_ble_eq_true rfl, Nat.le_of_ble_eq_true rfl⟩ dX12_ahead_3) (fun H locs X => ?_)
  refine lv_if_ne (tgt := 13) C.1 C.2.1 dX12_ahead_6 (by decide) (fun c6 => ?_) (fun c6 => ?_)
  · replace h := ineg c6 h
    refine lv_iload_n C.1 C.2.1 dX12_ahead_13 rfl (lv_at hl 2 rfl) ?_
    refine lv_iconst (v := 0) C.1 C.2.1 dX12_ahead_14 (by decide) ?_
    refine lv_bipush (v := 60) C.1 C.2.1 dX12_ahead_15 (by decide) ?_
    obtain ⟨r17, e17, h⟩ := bnd h
    refine afI X (runS C G X q_X12_isIn k_1734 k_1733 (c_X12_isIn l E e17) rfl hl.1 rfl (Nat.le_of_ble_eq_true rfl) ⟨Nat.le_of_ble_eq_true rfl, Nat.le_of_ble_eq_true rfl⟩ ⟨Nat.le_of_ble_eq_true rfl, Nat.le_of_ble_eq_true rfl⟩ dX12_ahead_17) (fun H locs X => ?_)
    refine lv_if_ne (tgt := 27) C.1 C.2.1 dX12_ahead_20 (by decide) (fun c20 => ?_) (fun c20 => ?_)
    · replace h := ineg c20 h
      refine lv_iload_n C.1 C.2.1 dX12_ahead_27 rfl (lv_at hl 3 rfl) ?_
      refine lv_iconst (v := 0) C.1 C.2.1 dX12_ahead_28 (by decide) ?_
      refine lv_iconst (v := 2) C.1 C.2.1 dX12_ahead_29 (by decide) ?_
      obtain ⟨r30, e30, h⟩ := bnd h
      refine afI X (runS C G X q_X12_isIn k_1734 k_1733 (c_X12_isIn l E e30) rfl hl.1 rfl (Nat.le_of_ble_eq_true rfl) ⟨Nat.le_of_ble_eq_true rfl, Nat.le_of_ble_eq_true rfl⟩ ⟨Nat.le_of_ble_eq_true rfl, Nat.le_of_ble_eq_true rfl⟩ dX12_ahead_30) (fun H locs X => ?_)
      refine lv_if_ne (tgt := 40) C.1 C.2.1 dX12_ahead_33 (by decide) (fun c33 => ?_) (fun c33 => ?_)
      · replace h := ineg c33 h
        refine lv_iconst (v := 0) C.1 C.2.1 dX12_ahead_40 (by decide) ?_
        exact w_X12_ahead_41 C G X (lv_sub hl [0, 1, 2, 3] rfl) h
      · replace h := ipos c33 h
        refine lv_iconst (v := 3) C.1 C.2.1 dX12_ahead_36 (by decide) ?_
        refine lv_goto (tgt := 41) C.1 C.2.1 dX12_ahead_37 (by decide) ?_
        exact w_X12_ahead_41 C G X (lv_sub hl [0, 1, 2, 3] rfl) h
    · replace h := ipos c20 h
      refine lv_iconst (v := 2) C.1 C.2.1 dX12_ahead_23 (by decide) ?_
      refine lv_goto (tgt := 41) C.1 C.2.1 dX12_ahead_24 (by decide) ?_
      exact w_X12_ahead_41 C G X (lv_sub hl [0, 1, 2, 3] rfl) h
  · replace h := ipos c6 h
    refine lv_iconst (v := 1) C.1 C.2.1 dX12_ahead_9 (by decide) ?_
    refine lv_goto (tgt := 41) C.1 C.2.1 dX12_ahead_10 (by decide) ?_
    exact w_X12_ahead_41 C G X (lv_sub hl [0, 1, 2, 3] rfl) h

theorem c_X12_ahead (l : Launch) (E : GE) {σ : Mem} {x1 : Int32} {x2 : Int32} {x3 : Int32} {r : (Int32 × Mem)} (h : X12_ahead x1 x2 x3 σ = some r) : CtI l E yX12_ahead cX12_ahead 6 .int 208 [.ref (gB E + 399), .int x1, .int x2, .int x3] σ r.1 r.2 := by
  refine Met.ofW (cc := cX12_ahead) (maxL := 6) (ret := (some .int)) (by decide) rfl ?_
  intro p e s m args below meth c s₁ B hml hv
  obtain ⟨rfl, G, X⟩ := start hv
  have C := cxof B hml
  have hl := lv_entry [.ref (gB E + 399), .int x1, .int x2, .int x3] (n := 6) (Nat.le_of_ble_eq_true rfl)
  rw [lg_entry_eq]
  generalize (lg_sl [.ref (gB E + 399), .int x1, .int x2, .int x3] ++ List.replicate (6 - (lg_sl [.ref (gB E + 399), .int x1, .int x2, .int x3]).length) Slot.unset).toArray = ls at hl ⊢
  exact w_X12_ahead C G X hl h

set_option maxRecDepth 20000 in
theorem w_X12_trial_54 {r : (Int32 × Mem)} {σ : Mem} {y0 : Int32} {ls : Array Slot} {H : Heap} {locs : List Loc} (C : Cx p s m args meth c cX12_trial (some .int) 5 RX12) (G : Gf E s) (X : Hx E σ s H locs) (hl : lv_has ls 5 [(0, .ref (gB E + 399))]) (h : X12_trial_54 y0 σ = some r) : W p l e (RM 208) s m args below meth c H locs 0 0 (QI E below args s r.1 r.2) (F0 m 54 ls [.int y0]) := by
  rw [X12_trial_54] at h
  refine lv_istore (lv' := [(4, .int y0), (0, .ref (gB E + 399))]) C.1 C.2.1 dX12_trial_54 hl (by decide) rfl (fun ls hl => ?_)
  refine lv_aload_n C.1 C.2.1 dX12_trial_56 rfl (lv_at hl 1 rfl) ?_
  obtain ⟨σ57, e57, h⟩ := bnd h
  refine afV X (runV C G X q_X12_comesBack k_1875 kp_53 k_1873 (rcX12 G X kd_399) (c_X12_comesBack l E e57) rfl hl.1 rfl (Nat.le_of_ble_eq_true rfl) ⟨Nat.le_of_ble_eq_true rfl, Nat.le_of_ble_eq_true rfl⟩ ⟨Nat.le_of_ble_eq_true rfl, Nat.le_of_ble_eq_true rfl⟩ dX12_trial_57) (fun H locs X => ?_)
  refine lv_iload C.1 C.2.1 dX12_trial_60 (lv_at hl 0 rfl) ?_
  rw [← Option.some.inj h]
  exact rtI C X dX12_trial_62

set_option maxRecDepth 20000 in
theorem w_X12_trial_16 {r : (Int32 × Mem)} {σ : Mem} {x1 : Int32} {x2 : Int32} {y1 : Int32} {ls : Array Slot} {H : Heap} {locs : List Loc} (C : Cx p s m args meth c cX12_trial (some .int) 5 RX12) (G : Gf E s) (X : Hx E σ s H locs) (hl : lv_has ls 5 [(0, .ref (gB E + 399)), (1, .int x1), (2, .int x2)]) (h : X12_trial_16 x1 x2 y1 σ = some r) : W p l e (RM 208) s m args below meth c H locs 0 0 (QI E below args s r.1 r.2) (F0 m 16 ls [.int y1, .ref (gB E + 399)]) := by
  rw [X12_trial_16] at h
  obtain ⟨σ16, e16, h⟩ := bnd h
  refine pfX12 C G X (k := 399) kd_399 0 (x := y1) (ty := .int) rfl rfl (Nat.le_of_ble_eq_true rfl) (by decide) k_1651 rfl rfl (by decide +kernel) rfl rfl dX12_trial_16 (fun H locs X => ?_)
  replace X := pu_x e16 X
  refine lv_aload_n C.1 C.2.1 dX12_trial_19 rfl (lv_at hl 0 rfl) ?_
  refine gfX12 C G X (k := 399) kd_399 0 (v := .int (σ16 399 0)) rfl rfl (by decide) k_1651 rfl dX12_trial_20 ?_
  refine lv_if_le (tgt := 28) C.1 C.2.1 dX12_trial_23 (by decide) (fun c23 => ?_) (fun c23 => ?_)
  · replace h := ipos c23 h
    refine lv_aload_n C.1 C.2.1 dX12_trial_28 rfl (lv_at hl 0 rfl) ?_
    obtain ⟨σ29, e29, h⟩ := bnd h
    refine afV X (runV C G X q_X12_putsAside k_1742 kp_26 k_1740 (rcX12 G X kd_399) (c_X12_putsAside l E e29) rfl hl.1 rfl (Nat.le_of_ble_eq_true rfl) ⟨Nat.le_of_ble_eq_true rfl, Nat.le_of_ble_eq_true rfl⟩ ⟨Nat.le_of_ble_eq_true rfl, Nat.le_of_ble_eq_true rfl⟩ dX12_trial_29) (fun H locs X => ?_)
    refine lv_aload_n C.1 C.2.1 dX12_trial_32 rfl (lv_at hl 0 rfl) ?_
    refine lv_iload_n C.1 C.2.1 dX12_trial_33 rfl (lv_at hl 1 rfl) ?_
    refine lv_iconst (v := 1) C.1 C.2.1 dX12_trial_34 (by decide) ?_
    obtain ⟨r35, σ35, e35, h⟩ := bnd2 h
    refine afI (r0 := r35) (σ' := σ35) X (runV C G X q_X12_goes k_2030 kp_80 k_2028 (rcX12 G X kd_399) (c_X12_goes l E e35) rfl hl.1 rfl (Nat.le_of_ble_eq_true rfl) ⟨Nat.le_of_ble_eq_true rfl, Nat.le_of_ble_eq_true rfl⟩ ⟨Nat.le_of_ble_eq_true rfl, Nat.le_of_ble_eq_true rfl⟩ dX12_trial_35) (fun H locs X => ?_)
    refine lv_istore_n (lv' := [(3, .int r35), (0, .ref (gB E + 399)), (1, .int x1), (2, .int x2)]) C.1 C.2.1 dX12_trial_38 rfl hl (by decide) rfl (fun ls hl => ?_)
    refine lv_iload_n C.1 C.2.1 dX12_trial_39 rfl (lv_at hl 3 rfl) ?_
    refine lv_if_eq (tgt := 50) C.1 C.2.1 dX12_trial_40 (by decide) (fun c40 => ?_) (fun c40 => ?_)
    · replace h := ipos c40 h
      refine lv_aload_n C.1 C.2.1 dX12_trial_50 rfl (lv_at hl 1 rfl) ?_
      obtain ⟨r51, e51, h⟩ := bnd h
      refine afI X (runV C G X q_X12_burning k_2074 kp_82 k_2072 (rcX12 G X kd_399) (c_X12_burning l E e51) rfl hl.1 rfl (Nat.le_of_ble_eq_true rfl) ⟨Nat.le_of_ble_eq_true rfl, Nat.le_of_ble_eq_true rfl⟩ ⟨Nat.le_of_ble_eq_true rfl, Nat.le_of_ble_eq_true rfl⟩ dX12_trial_51) (fun H locs X => ?_)
      exact w_X12_trial_54 C G X (lv_sub hl [1] rfl) h
    · replace h := ineg c40 h
      refine lv_aload_n C.1 C.2.1 dX12_trial_43 rfl (lv_at hl 1 rfl) ?_
      obtain ⟨r44, e44, h⟩ := bnd h
      refine afI X (runV C G X q_X12_oilOfAll k_2254 kp_100 k_2252 (rcX12 G X kd_399) (c_X12_oilOfAll l E e44) rfl hl.1 rfl (Nat.le_of_ble_eq_true rfl) ⟨Nat.le_of_ble_eq_true rfl, Nat.le_of_ble_eq_true rfl⟩ ⟨Nat.le_of_ble_eq_true rfl, Nat.le_of_ble_eq_true rfl⟩ dX12_trial_44) (fun H locs X => ?_)
      refine lv_goto (tgt := 54) C.1 C.2.1 dX12_trial_47 (by decide) ?_
      exact w_X12_trial_54 C G X (lv_sub hl [1] rfl) h
  · replace h := ineg c23 h
    refine lv_iconst (v := 0) C.1 C.2.1 dX12_trial_26 (by decide) ?_
    rw [← Option.some.inj h]
    exact rtI C X dX12_trial_27

set_option maxRecDepth 20000 in
theorem w_X12_trial {r : (Int32 × Mem)} {σ : Mem} {x1 : Int32} {x2 : Int32} {ls : Array Slot} {H : Heap} {locs : List Loc} (C : Cx p s m args meth c cX12_trial (some .int) 5 RX12) (G : Gf E s) (X : Hx E σ s H locs) (hl : lv_has ls 5 [(0, .ref (gB E + 399)), (1, .int x1), (2, .int x2)]) (h : X12_trial x1 x2 σ = some r) : W p l e (RM 208) s m args below meth c H locs 0 0 (QI E below args s r.1 r.2) (F0 m 0 ls []) := by
  rw [X12_trial] at h
  refine lv_aload_n C.1 C.2.1 dX12_trial_0 rfl (lv_at hl 0 rfl) ?_
  refine lv_iload_n C.1 C.2.1 dX12_trial_1 rfl (lv_at hl 1 rfl) ?_
  refine lv_iconst (v := 0) C.1 C.2.1 dX12_trial_2 (by decide) ?_
  refine lv_bipush (v := 60) C.1 C.2.1 dX12_trial_3 (by decide) ?_
  obtain ⟨r5, e5, h⟩ := bnd h
  refine afI X (runS C G X q_X12_isIn k_1734 k_1733 (c_X12_isIn l E e5) rfl hl.1 rfl (Nat.le_of_ble_eq_true rfl) ⟨Nat.le_of_ble_eq_true rfl, Nat.le_of_ble_eq_true rfl⟩ ⟨Nat.le_of_ble_eq_true rfl, Nat.le_of_ble_eq_true rfl⟩ dX12_trial_5) (fun H locs X => ?_)
  refine lv_if_ne (tgt := 15) C.1 C.2.1 dX12_trial_8 (by decide) (fun c8 => ?_) (fun c8 => ?_)
  · replace h := ineg c8 h
    refine lv_iconst (v := 0) C.1 C.2.1 dX12_trial_15 (by decide) ?_
    exact w_X12_trial_16 C G X (lv_sub hl [0, 1, 2] rfl) h
  · replace h := ipos c8 h
    refine lv_iconst (v := 1) C.1 C.2.1 dX12_trial_11 (by decide) ?_
    refine lv_goto (tgt := 16) C.1 C.2.1 dX12_trial_12 (by decide) ?_
    exact w_X12_trial_16 C G X (lv_sub hl [0, 1, 2] rfl) h

theorem c_X12_trial (l : Launch) (E : GE) {σ : Mem} {x1 : Int32} {x2 : Int32} {r : (Int32 × Mem)} (h : X12_trial x1 x2 σ = some r) : CtI l E yX12_trial cX12_trial 5 .int 208 [.ref (gB E + 399), .int x1, .int x2] σ r.1 r.2 := by
  refine Met.ofW (cc := cX12_trial) (maxL := 5) (ret := (some .int)) (by decide) rfl ?_
  intro p e s m args below meth c s₁ B hml hv
  obtain ⟨rfl, G, X⟩ := start hv
  have C := cxof B hml
  have hl := lv_entry [.ref (gB E + 399), .int x1, .int x2] (n := 5) (Nat.le_of_ble_eq_true rfl)
  rw [lg_entry_eq]
  generalize (lg_sl [.ref (gB E + 399), .int x1, .int x2] ++ List.replicate (5 - (lg_sl [.ref (gB E + 399), .int x1, .int x2]).length) Slot.unset).toArray = ls at hl ⊢
  exact w_X12_trial C G X hl h

set_option maxRecDepth 20000 in
theorem w_X12_span_103 {r : (Int32 × Mem)} {σ : Mem} {rc37 : Int32 → Int32 → Int32 → Int32 → Mem → Option (Int32 × Mem)} {x1 : Int32} {x2 : Int32} {x4 : Int32} {y0 : Int32} {ls : Array Slot} {H : Heap} {locs : List Loc} (C : Cx p s m args meth c cX12_span (some .int) 7 RX12) (G : Gf E s) (hr37 : ∀ {x1 : Int32} {x2 : Int32} {x3 : Int32} {x4 : Int32} {σ : Mem} {ls : Array Slot} {H : Heap} {locs : List Loc}, Hx E σ s H locs → lv_has ls 7 [(0, .ref (gB E + 399)), (1, .int x1), (2, .int x2), (3, .int x3), (4, .int x4)] → rc37 x1 x2 x3 x4 σ = some r → W p l e (RM 208) s m args below meth c H locs 0 0 (QI E below args s r.1 r.2) (F0 m 37 ls [])) (X : Hx E σ s H locs) (hl : lv_has ls 7 [(0, .ref (gB E + 399)), (1, .int x1), (2, .int x2), (4, .int x4)]) (h : X12_span_103 rc37 x1 x2 x4 y0 σ = some r) : W p l e (RM 208) s m args below meth c H locs 0 0 (QI E below args s r.1 r.2) (F0 m 103 ls [.int y0]) := by
  rw [X12_span_103] at h
  refine lv_istore_n (lv' := [(3, .int y0), (0, .ref (gB E + 399)), (1, .int x1), (2, .int x2), (4, .int x4)]) C.1 C.2.1 dX12_span_103 rfl hl (by decide) rfl (fun ls hl => ?_)
  refine lv_iinc (v := (x4 + 1)) (lv' := [(4, .int (x4 + 1)), (3, .int y0), (0, .ref (gB E + 399)), (1, .int x1), (2, .int x2)]) C.1 C.2.1 dX12_span_104 hl (k := 4) rfl rfl (by decide) rfl (fun ls hl => ?_)
  refine lv_goto (tgt := 37) C.1 C.2.1 dX12_span_107 (by decide) ?_
  exact hr37 X (lv_sub hl [2, 3, 4, 1, 0] rfl) h

set_option maxRecDepth 20000 in
theorem w_X12_span_37 {r : (Int32 × Mem)} (C : Cx p s m args meth c cX12_span (some .int) 7 RX12) (G : Gf E s) : ∀ (f : Nat) {x1 : Int32} {x2 : Int32} {x3 : Int32} {x4 : Int32} {σ : Mem} {ls : Array Slot} {H : Heap} {locs : List Loc}, Hx E σ s H locs → lv_has ls 7 [(0, .ref (gB E + 399)), (1, .int x1), (2, .int x2), (3, .int x3), (4, .int x4)] → X12_span_37 f x1 x2 x3 x4 σ = some r → W p l e (RM 208) s m args below meth c H locs 0 0 (QI E below args s r.1 r.2) (F0 m 37 ls []) := by
  intro f
  induction f with
  | zero =>
    intro x1 x2 x3 x4 σ ls H locs X hl h
    rw [X12_span_37] at h
    cases h
  | succ f ih =>
    intro x1 x2 x3 x4 σ ls H locs X hl h
    rw [X12_span_37] at h
    refine lv_iload C.1 C.2.1 dX12_span_37 (lv_at hl 4 rfl) ?_
    refine lv_bipush (v := 6) C.1 C.2.1 dX12_span_39 (by decide) ?_
    refine lv_icmp_gt (tgt := 110) C.1 C.2.1 dX12_span_41 (by decide) (fun c41 => ?_) (fun c41 => ?_)
    · replace h := ipos c41 h
      refine lv_iload_n C.1 C.2.1 dX12_span_110 rfl (lv_at hl 3 rfl) ?_
      rw [← Option.some.inj h]
      exact rtI C X dX12_span_111
    · replace h := ineg c41 h
      refine lv_aload_n C.1 C.2.1 dX12_span_44 rfl (lv_at hl 0 rfl) ?_
      refine gfX12 C G X (k := 399) kd_399 1 (v := .ref (gB E + 400)) rfl rfl (by decide) k_1652 rfl dX12_span_45 ?_
      refine lv_bipush (v := 10) C.1 C.2.1 dX12_span_48 (by decide) ?_
      refine lv_iload C.1 C.2.1 dX12_span_50 (lv_at hl 4 rfl) ?_
      obtain ⟨σ52, e52, h⟩ := bnd h
      refine ast C G X (k := 400) kd_400 (au_s e52).1 dX12_span_52 (fun H locs X => ?_)
      rw [(au_s e52).2] at X
      refine lv_aload_n C.1 C.2.1 dX12_span_53 rfl (lv_at hl 0 rfl) ?_
      refine lv_iload_n C.1 C.2.1 dX12_span_54 rfl (lv_at hl 1 rfl) ?_
      refine lv_iconst (v := 1) C.1 C.2.1 dX12_span_55 (by decide) ?_
      obtain ⟨r56, σ56, e56, h⟩ := bnd2 h
      refine afI (r0 := r56) (σ' := σ56) X (runV C G X q_X12_goes k_2030 kp_80 k_2028 (rcX12 G X kd_399) (c_X12_goes l E e56) rfl hl.1 rfl (Nat.le_of_ble_eq_true rfl) ⟨Nat.le_of_ble_eq_true rfl, Nat.le_of_ble_eq_true rfl⟩ ⟨Nat.le_of_ble_eq_true rfl, Nat.le_of_ble_eq_true rfl⟩ dX12_span_56) (fun H locs X => ?_)
      refine lv_istore (lv' := [(5, .int r56), (0, .ref (gB E + 399)), (1, .int x1), (2, .int x2), (3, .int x3), (4, .int x4)]) C.1 C.2.1 dX12_span_59 hl (by decide) rfl (fun ls hl => ?_)
      refine lv_aload_n C.1 C.2.1 dX12_span_61 rfl (lv_at hl 1 rfl) ?_
      obtain ⟨r62, e62, h⟩ := bnd h
      refine afI X (runV C G X q_X12_burning k_2074 kp_82 k_2072 (rcX12 G X kd_399) (c_X12_burning l E e62) rfl hl.1 rfl (Nat.le_of_ble_eq_true rfl) ⟨Nat.le_of_ble_eq_true rfl, Nat.le_of_ble_eq_true rfl⟩ ⟨Nat.le_of_ble_eq_true rfl, Nat.le_of_ble_eq_true rfl⟩ dX12_span_62) (fun H locs X => ?_)
      obtain ⟨r65, e65, h⟩ := bnd h
      refine afI X (runS C G X q_X12_bits k_2109 k_2108 (c_X12_bits l E e65) rfl hl.1 rfl (Nat.le_of_ble_eq_true rfl) ⟨Nat.le_of_ble_eq_true rfl, Nat.le_of_ble_eq_true rfl⟩ ⟨Nat.le_of_ble_eq_true rfl, Nat.le_of_ble_eq_true rfl⟩ dX12_span_65) (fun H locs X => ?_)
      refine lv_istore (lv' := [(6, .int r65), (5, .int r56), (0, .ref (gB E + 399)), (1, .int x1), (2, .int x2), (3, .int x3), (4, .int x4)]) C.1 C.2.1 dX12_span_68 hl (by decide) rfl (fun ls hl => ?_)
      refine lv_aload_n C.1 C.2.1 dX12_span_70 rfl (lv_at hl 2 rfl) ?_
      obtain ⟨σ71, e71, h⟩ := bnd h
      refine afV X (runV C G X q_X12_comesBack k_1875 kp_53 k_1873 (rcX12 G X kd_399) (c_X12_comesBack l E e71) rfl hl.1 rfl (Nat.le_of_ble_eq_true rfl) ⟨Nat.le_of_ble_eq_true rfl, Nat.le_of_ble_eq_true rfl⟩ ⟨Nat.le_of_ble_eq_true rfl, Nat.le_of_ble_eq_true rfl⟩ dX12_span_71) (fun H locs X => ?_)
      refine lv_iload_n C.1 C.2.1 dX12_span_74 rfl (lv_at hl 5 rfl) ?_
      refine lv_iconst (v := -1) C.1 C.2.1 dX12_span_75 (by decide) ?_
      refine lv_icmp_ne (tgt := 84) C.1 C.2.1 dX12_span_76 (by decide) (fun c76 => ?_) (fun c76 => ?_)
      · replace h := ineg c76 h
        refine lv_iload_n C.1 C.2.1 dX12_span_84 rfl (lv_at hl 4 rfl) ?_
        refine lv_if_eq (tgt := 97) C.1 C.2.1 dX12_span_85 (by decide) (fun c85 => ?_) (fun c85 => ?_)
        · replace h := ipos c85 h
          refine lv_iload_n C.1 C.2.1 dX12_span_97 rfl (lv_at hl 5 rfl) ?_
          refine lv_iload C.1 C.2.1 dX12_span_98 (lv_at hl 0 rfl) ?_
          obtain ⟨r100, e100, h⟩ := bnd h
          refine afI X (runS C G X q_X12_lesser k_1958 k_1957 (c_X12_lesser l E e100) rfl hl.1 rfl (Nat.le_of_ble_eq_true rfl) ⟨Nat.le_of_ble_eq_true rfl, Nat.le_of_ble_eq_true rfl⟩ ⟨Nat.le_of_ble_eq_true rfl, Nat.le_of_ble_eq_true rfl⟩ dX12_span_100) (fun H locs X => ?_)
          exact w_X12_span_103 C G ih X (lv_sub hl [2, 3, 4, 6] rfl) h
        · replace h := ineg c85 h
          refine lv_iload_n C.1 C.2.1 dX12_span_88 rfl (lv_at hl 5 rfl) ?_
          refine lv_iload C.1 C.2.1 dX12_span_89 (lv_at hl 0 rfl) ?_
          obtain ⟨r91, e91, h⟩ := bnd h
          refine afI X (runS C G X q_X12_greater k_1969 k_1968 (c_X12_greater l E e91) rfl hl.1 rfl (Nat.le_of_ble_eq_true rfl) ⟨Nat.le_of_ble_eq_true rfl, Nat.le_of_ble_eq_true rfl⟩ ⟨Nat.le_of_ble_eq_true rfl, Nat.le_of_ble_eq_true rfl⟩ dX12_span_91) (fun H locs X => ?_)
          refine lv_goto (tgt := 103) C.1 C.2.1 dX12_span_94 (by decide) ?_
          exact w_X12_span_103 C G ih X (lv_sub hl [2, 3, 4, 6] rfl) h
      · replace h := ipos c76 h
        refine lv_iload C.1 C.2.1 dX12_span_79 (lv_at hl 0 rfl) ?_
        refine lv_goto (tgt := 103) C.1 C.2.1 dX12_span_81 (by decide) ?_
        exact w_X12_span_103 C G ih X (lv_sub hl [2, 3, 4, 6] rfl) h

set_option maxRecDepth 20000 in
theorem w_X12_span_16 {r : (Int32 × Mem)} {σ : Mem} {x1 : Int32} {x2 : Int32} {y1 : Int32} {ls : Array Slot} {H : Heap} {locs : List Loc} (C : Cx p s m args meth c cX12_span (some .int) 7 RX12) (G : Gf E s) (X : Hx E σ s H locs) (hl : lv_has ls 7 [(0, .ref (gB E + 399)), (1, .int x1), (2, .int x2)]) (h : X12_span_16 x1 x2 y1 σ = some r) : W p l e (RM 208) s m args below meth c H locs 0 0 (QI E below args s r.1 r.2) (F0 m 16 ls [.int y1, .ref (gB E + 399)]) := by
  rw [X12_span_16] at h
  obtain ⟨σ16, e16, h⟩ := bnd h
  refine pfX12 C G X (k := 399) kd_399 0 (x := y1) (ty := .int) rfl rfl (Nat.le_of_ble_eq_true rfl) (by decide) k_1651 rfl rfl (by decide +kernel) rfl rfl dX12_span_16 (fun H locs X => ?_)
  replace X := pu_x e16 X
  refine lv_aload_n C.1 C.2.1 dX12_span_19 rfl (lv_at hl 0 rfl) ?_
  refine gfX12 C G X (k := 399) kd_399 0 (v := .int (σ16 399 0)) rfl rfl (by decide) k_1651 rfl dX12_span_20 ?_
  refine lv_if_le (tgt := 28) C.1 C.2.1 dX12_span_23 (by decide) (fun c23 => ?_) (fun c23 => ?_)
  · replace h := ipos c23 h
    refine lv_aload_n C.1 C.2.1 dX12_span_28 rfl (lv_at hl 0 rfl) ?_
    obtain ⟨σ29, e29, h⟩ := bnd h
    refine afV X (runV C G X q_X12_putsAside k_1742 kp_26 k_1740 (rcX12 G X kd_399) (c_X12_putsAside l E e29) rfl hl.1 rfl (Nat.le_of_ble_eq_true rfl) ⟨Nat.le_of_ble_eq_true rfl, Nat.le_of_ble_eq_true rfl⟩ ⟨Nat.le_of_ble_eq_true rfl, Nat.le_of_ble_eq_true rfl⟩ dX12_span_29) (fun H locs X => ?_)
    refine lv_iconst (v := -1) C.1 C.2.1 dX12_span_32 (by decide) ?_
    refine lv_istore_n (lv' := [(3, .int (-1 : Int32)), (0, .ref (gB E + 399)), (1, .int x1), (2, .int x2)]) C.1 C.2.1 dX12_span_33 rfl hl (by decide) rfl (fun ls hl => ?_)
    refine lv_iconst (v := 1) C.1 C.2.1 dX12_span_34 (by decide) ?_
    refine lv_istore (lv' := [(4, .int (1 : Int32)), (3, .int (-1 : Int32)), (0, .ref (gB E + 399)), (1, .int x1), (2, .int x2)]) C.1 C.2.1 dX12_span_35 hl (by decide) rfl (fun ls hl => ?_)
    exact w_X12_span_37 C G FU X (lv_sub hl [2, 3, 4, 1, 0] rfl) h
  · replace h := ineg c23 h
    refine lv_iconst (v := 0) C.1 C.2.1 dX12_span_26 (by decide) ?_
    rw [← Option.some.inj h]
    exact rtI C X dX12_span_27

set_option maxRecDepth 20000 in
theorem w_X12_span {r : (Int32 × Mem)} {σ : Mem} {x1 : Int32} {x2 : Int32} {ls : Array Slot} {H : Heap} {locs : List Loc} (C : Cx p s m args meth c cX12_span (some .int) 7 RX12) (G : Gf E s) (X : Hx E σ s H locs) (hl : lv_has ls 7 [(0, .ref (gB E + 399)), (1, .int x1), (2, .int x2)]) (h : X12_span x1 x2 σ = some r) : W p l e (RM 208) s m args below meth c H locs 0 0 (QI E below args s r.1 r.2) (F0 m 0 ls []) := by
  rw [X12_span] at h
  refine lv_aload_n C.1 C.2.1 dX12_span_0 rfl (lv_at hl 0 rfl) ?_
  refine lv_iload_n C.1 C.2.1 dX12_span_1 rfl (lv_at hl 1 rfl) ?_
  refine lv_iconst (v := 0) C.1 C.2.1 dX12_span_2 (by decide) ?_
  refine lv_bipush (v := 60) C.1 C.2.1 dX12_span_3 (by decide) ?_
  obtain ⟨r5, e5, h⟩ := bnd h
  refine afI X (runS C G X q_X12_isIn k_1734 k_1733 (c_X12_isIn l E e5) rfl hl.1 rfl (Nat.le_of_ble_eq_true rfl) ⟨Nat.le_of_ble_eq_true rfl, Nat.le_of_ble_eq_true rfl⟩ ⟨Nat.le_of_ble_eq_true rfl, Nat.le_of_ble_eq_true rfl⟩ dX12_span_5) (fun H locs X => ?_)
  refine lv_if_ne (tgt := 15) C.1 C.2.1 dX12_span_8 (by decide) (fun c8 => ?_) (fun c8 => ?_)
  · replace h := ineg c8 h
    refine lv_iconst (v := 0) C.1 C.2.1 dX12_span_15 (by decide) ?_
    exact w_X12_span_16 C G X (lv_sub hl [0, 1, 2] rfl) h
  · replace h := ipos c8 h
    refine lv_iconst (v := 1) C.1 C.2.1 dX12_span_11 (by decide) ?_
    refine lv_goto (tgt := 16) C.1 C.2.1 dX12_span_12 (by decide) ?_
    exact w_X12_span_16 C G X (lv_sub hl [0, 1, 2] rfl) h

theorem c_X12_span (l : Launch) (E : GE) {σ : Mem} {x1 : Int32} {x2 : Int32} {r : (Int32 × Mem)} (h : X12_span x1 x2 σ = some r) : CtI l E yX12_span cX12_span 7 .int 208 [.ref (gB E + 399), .int x1, .int x2] σ r.1 r.2 := by
  refine Met.ofW (cc := cX12_span) (maxL := 7) (ret := (some .int)) (by decide) rfl ?_
  intro p e s m args below meth c s₁ B hml hv
  obtain ⟨rfl, G, X⟩ := start hv
  have C := cxof B hml
  have hl := lv_entry [.ref (gB E + 399), .int x1, .int x2] (n := 7) (Nat.le_of_ble_eq_true rfl)
  rw [lg_entry_eq]
  generalize (lg_sl [.ref (gB E + 399), .int x1, .int x2] ++ List.replicate (7 - (lg_sl [.ref (gB E + 399), .int x1, .int x2]).length) Slot.unset).toArray = ls at hl ⊢
  exact w_X12_span C G X hl h

set_option maxRecDepth 20000 in
theorem w_X12_logged {r : Int32} {σ : Mem} {x1 : Int32} {x2 : Int32} {ls : Array Slot} {H : Heap} {locs : List Loc} (C : Cx p s m args meth c cX12_logged (some .int) 3 RX12) (G : Gf E s) (X : Hx E σ s H locs) (hl : lv_has ls 3 [(0, .ref (gB E + 399)), (1, .int x1), (2, .int x2)]) (h : X12_logged σ x1 x2 = some r) : W p l e (RM 1) s m args below meth c H locs 0 0 (QI E below args s r σ) (F0 m 0 ls []) := by
  rw [X12_logged] at h
  refine lv_aload_n C.1 C.2.1 dX12_logged_0 rfl (lv_at hl 0 rfl) ?_
  refine gfX12 C G X (k := 399) kd_399 1 (v := .ref (gB E + 400)) rfl rfl (by decide) k_1652 rfl dX12_logged_1 ?_
  refine lv_sipush (v := 188) C.1 C.2.1 dX12_logged_4 (by decide) ?_
  refine lv_iconst (v := 5) C.1 C.2.1 dX12_logged_7 (by decide) ?_
  refine lv_iload_n C.1 C.2.1 dX12_logged_8 rfl (lv_at hl 1 rfl) ?_
  refine lv_imul C.1 C.2.1 dX12_logged_9 ?_
  refine lv_iadd C.1 C.2.1 dX12_logged_10 ?_
  refine lv_iload_n C.1 C.2.1 dX12_logged_11 rfl (lv_at hl 2 rfl) ?_
  refine lv_iadd C.1 C.2.1 dX12_logged_12 ?_
  obtain ⟨r13, e13, h⟩ := bnd h
  refine ald C G X (k := 400) kd_400 (ag_s e13).1 dX12_logged_13 ?_
  rw [(ag_s e13).2]
  rw [← Option.some.inj h]
  exact rtI C X dX12_logged_14

theorem c_X12_logged (l : Launch) (E : GE) {σ : Mem} {x1 : Int32} {x2 : Int32} {r : Int32} (h : X12_logged σ x1 x2 = some r) : CtI l E yX12_logged cX12_logged 3 .int 1 [.ref (gB E + 399), .int x1, .int x2] σ r σ := by
  refine Met.ofW (cc := cX12_logged) (maxL := 3) (ret := (some .int)) (by decide) rfl ?_
  intro p e s m args below meth c s₁ B hml hv
  obtain ⟨rfl, G, X⟩ := start hv
  have C := cxof B hml
  have hl := lv_entry [.ref (gB E + 399), .int x1, .int x2] (n := 3) (Nat.le_of_ble_eq_true rfl)
  rw [lg_entry_eq]
  generalize (lg_sl [.ref (gB E + 399), .int x1, .int x2] ++ List.replicate (3 - (lg_sl [.ref (gB E + 399), .int x1, .int x2]).length) Slot.unset).toArray = ls at hl ⊢
  exact w_X12_logged C G X hl h

set_option maxRecDepth 20000 in
theorem w_X12_led_42 {r : (Int32 × Mem)} (C : Cx p s m args meth c cX12_led (some .int) 6 RX12) (G : Gf E s) : ∀ (f : Nat) {x1 : Int32} {x2 : Int32} {x3 : Int32} {x4 : Int32} {x5 : Int32} {σ : Mem} {ls : Array Slot} {H : Heap} {locs : List Loc}, Hx E σ s H locs → lv_has ls 6 [(0, .ref (gB E + 399)), (1, .int x1), (2, .int x2), (3, .int x3), (4, .int x4), (5, .int x5)] → X12_led_42 f x1 x2 x3 x4 x5 σ = some r → W p l e (RM 3) s m args below meth c H locs 0 0 (QI E below args s r.1 r.2) (F0 m 42 ls []) := by
  intro f
  induction f with
  | zero =>
    intro x1 x2 x3 x4 x5 σ ls H locs X hl h
    rw [X12_led_42] at h
    cases h
  | succ f ih =>
    intro x1 x2 x3 x4 x5 σ ls H locs X hl h
    rw [X12_led_42] at h
    refine lv_iload C.1 C.2.1 dX12_led_42 (lv_at hl 5 rfl) ?_
    refine lv_if_lt (tgt := 79) C.1 C.2.1 dX12_led_44 (by decide) (fun c44 => ?_) (fun c44 => ?_)
    · replace h := ipos c44 h
      refine lv_iload_n C.1 C.2.1 dX12_led_79 rfl (lv_at hl 2 rfl) ?_
      refine lv_if_eq (tgt := 88) C.1 C.2.1 dX12_led_80 (by decide) (fun c80 => ?_) (fun c80 => ?_)
      · replace h := ipos c80 h
        refine lv_iload_n C.1 C.2.1 dX12_led_88 rfl (lv_at hl 3 rfl) ?_
        rw [← Option.some.inj h]
        exact rtI C X dX12_led_89
      · replace h := ineg c80 h
        refine lv_iload C.1 C.2.1 dX12_led_83 (lv_at hl 4 rfl) ?_
        refine lv_goto (tgt := 89) C.1 C.2.1 dX12_led_85 (by decide) ?_
        rw [← Option.some.inj h]
        exact rtI C X dX12_led_89
    · replace h := ineg c44 h
      refine lv_aload_n C.1 C.2.1 dX12_led_47 rfl (lv_at hl 0 rfl) ?_
      refine lv_iload C.1 C.2.1 dX12_led_48 (lv_at hl 5 rfl) ?_
      refine lv_iconst (v := 3) C.1 C.2.1 dX12_led_50 (by decide) ?_
      obtain ⟨r51, e51, h⟩ := bnd h
      refine afI X (runV C G X q_X12_logged k_2266 kp_101 k_2264 (rcX12 G X kd_399) (c_X12_logged l E e51) rfl hl.1 rfl (Nat.le_of_ble_eq_true rfl) ⟨Nat.le_of_ble_eq_true rfl, Nat.le_of_ble_eq_true rfl⟩ ⟨Nat.le_of_ble_eq_true rfl, Nat.le_of_ble_eq_true rfl⟩ dX12_led_51) (fun H locs X => ?_)
      refine lv_iload_n C.1 C.2.1 dX12_led_54 rfl (lv_at hl 1 rfl) ?_
      refine lv_icmp_eq (tgt := 61) C.1 C.2.1 dX12_led_55 (by decide) (fun c55 => ?_) (fun c55 => ?_)
      · replace h := ipos c55 h
        refine lv_iinc (v := (x3 + 1)) (lv' := [(3, .int (x3 + 1)), (0, .ref (gB E + 399)), (1, .int x1), (2, .int x2), (4, .int x4), (5, .int x5)]) C.1 C.2.1 dX12_led_61 hl (k := 3) rfl rfl (by decide) rfl (fun ls hl => ?_)
        refine lv_aload_n C.1 C.2.1 dX12_led_64 rfl (lv_at hl 1 rfl) ?_
        refine lv_iload C.1 C.2.1 dX12_led_65 (lv_at hl 5 rfl) ?_
        refine lv_iconst (v := 0) C.1 C.2.1 dX12_led_67 (by decide) ?_
        obtain ⟨r68, e68, h⟩ := bnd h
        refine afI X (runV C G X q_X12_logged k_2266 kp_101 k_2264 (rcX12 G X kd_399) (c_X12_logged l E e68) rfl hl.1 rfl (Nat.le_of_ble_eq_true rfl) ⟨Nat.le_of_ble_eq_true rfl, Nat.le_of_ble_eq_true rfl⟩ ⟨Nat.le_of_ble_eq_true rfl, Nat.le_of_ble_eq_true rfl⟩ dX12_led_68) (fun H locs X => ?_)
        refine lv_istore (lv' := [(4, .int r68), (3, .int (x3 + 1)), (0, .ref (gB E + 399)), (1, .int x1), (2, .int x2), (5, .int x5)]) C.1 C.2.1 dX12_led_71 hl (by decide) rfl (fun ls hl => ?_)
        refine lv_iinc (v := (x5 + (-1))) (lv' := [(5, .int (x5 + (-1))), (4, .int r68), (3, .int (x3 + 1)), (0, .ref (gB E + 399)), (1, .int x1), (2, .int x2)]) C.1 C.2.1 dX12_led_73 hl (k := 5) rfl rfl (by decide) rfl (fun ls hl => ?_)
        refine lv_goto (tgt := 42) C.1 C.2.1 dX12_led_76 (by decide) ?_
        exact ih X (lv_sub hl [3, 4, 5, 2, 1, 0] rfl) h
      · replace h := ineg c55 h
        refine lv_goto (tgt := 73) C.1 C.2.1 dX12_led_58 (by decide) ?_
        refine lv_iinc (v := (x5 + (-1))) (lv' := [(5, .int (x5 + (-1))), (0, .ref (gB E + 399)), (1, .int x1), (2, .int x2), (3, .int x3), (4, .int x4)]) C.1 C.2.1 dX12_led_73 hl (k := 5) rfl rfl (by decide) rfl (fun ls hl => ?_)
        refine lv_goto (tgt := 42) C.1 C.2.1 dX12_led_76 (by decide) ?_
        exact ih X (lv_sub hl [1, 2, 3, 4, 5, 0] rfl) h

set_option maxRecDepth 20000 in
theorem w_X12_led_14 {r : (Int32 × Mem)} {σ : Mem} {x1 : Int32} {x2 : Int32} {y1 : Int32} {ls : Array Slot} {H : Heap} {locs : List Loc} (C : Cx p s m args meth c cX12_led (some .int) 6 RX12) (G : Gf E s) (X : Hx E σ s H locs) (hl : lv_has ls 6 [(0, .ref (gB E + 399)), (1, .int x1), (2, .int x2)]) (h : X12_led_14 x1 x2 y1 σ = some r) : W p l e (RM 3) s m args below meth c H locs 0 0 (QI E below args s r.1 r.2) (F0 m 14 ls [.int y1, .ref (gB E + 399)]) := by
  rw [X12_led_14] at h
  obtain ⟨σ14, e14, h⟩ := bnd h
  refine pfX12 C G X (k := 399) kd_399 0 (x := y1) (ty := .int) rfl rfl (Nat.le_of_ble_eq_true rfl) (by decide) k_1651 rfl rfl (by decide +kernel) rfl rfl dX12_led_14 (fun H locs X => ?_)
  replace X := pu_x e14 X
  refine lv_aload_n C.1 C.2.1 dX12_led_17 rfl (lv_at hl 0 rfl) ?_
  refine gfX12 C G X (k := 399) kd_399 0 (v := .int (σ14 399 0)) rfl rfl (by decide) k_1651 rfl dX12_led_18 ?_
  refine lv_if_le (tgt := 26) C.1 C.2.1 dX12_led_21 (by decide) (fun c21 => ?_) (fun c21 => ?_)
  · replace h := ipos c21 h
    refine lv_iconst (v := 0) C.1 C.2.1 dX12_led_26 (by decide) ?_
    refine lv_istore_n (lv' := [(3, .int (0 : Int32)), (0, .ref (gB E + 399)), (1, .int x1), (2, .int x2)]) C.1 C.2.1 dX12_led_27 rfl hl (by decide) rfl (fun ls hl => ?_)
    refine lv_iconst (v := -1) C.1 C.2.1 dX12_led_28 (by decide) ?_
    refine lv_istore (lv' := [(4, .int (-1 : Int32)), (3, .int (0 : Int32)), (0, .ref (gB E + 399)), (1, .int x1), (2, .int x2)]) C.1 C.2.1 dX12_led_29 hl (by decide) rfl (fun ls hl => ?_)
    refine lv_aload_n C.1 C.2.1 dX12_led_31 rfl (lv_at hl 2 rfl) ?_
    refine gfX12 C G X (k := 399) kd_399 1 (v := .ref (gB E + 400)) rfl rfl (by decide) k_1652 rfl dX12_led_32 ?_
    refine lv_bipush (v := 9) C.1 C.2.1 dX12_led_35 (by decide) ?_
    obtain ⟨r37, e37, h⟩ := bnd h
    refine ald C G X (k := 400) kd_400 (ag_s e37).1 dX12_led_37 ?_
    rw [(ag_s e37).2]
    refine lv_iconst (v := 1) C.1 C.2.1 dX12_led_38 (by decide) ?_
    refine lv_isub C.1 C.2.1 dX12_led_39 ?_
    refine lv_istore (lv' := [(5, .int (r37 - (1 : Int32))), (4, .int (-1 : Int32)), (3, .int (0 : Int32)), (0, .ref (gB E + 399)), (1, .int x1), (2, .int x2)]) C.1 C.2.1 dX12_led_40 hl (by decide) rfl (fun ls hl => ?_)
    exact w_X12_led_42 C G FU X (lv_sub hl [3, 4, 5, 2, 1, 0] rfl) h
  · replace h := ineg c21 h
    refine lv_iconst (v := 0) C.1 C.2.1 dX12_led_24 (by decide) ?_
    rw [← Option.some.inj h]
    exact rtI C X dX12_led_25

set_option maxRecDepth 20000 in
theorem w_X12_led {r : (Int32 × Mem)} {σ : Mem} {x1 : Int32} {x2 : Int32} {ls : Array Slot} {H : Heap} {locs : List Loc} (C : Cx p s m args meth c cX12_led (some .int) 6 RX12) (G : Gf E s) (X : Hx E σ s H locs) (hl : lv_has ls 6 [(0, .ref (gB E + 399)), (1, .int x1), (2, .int x2)]) (h : X12_led x1 x2 σ = some r) : W p l e (RM 3) s m args below meth c H locs 0 0 (QI E below args s r.1 r.2) (F0 m 0 ls []) := by
  rw [X12_led] at h
  refine lv_aload_n C.1 C.2.1 dX12_led_0 rfl (lv_at hl 0 rfl) ?_
  refine lv_aload_n C.1 C.2.1 dX12_led_1 rfl (lv_at hl 0 rfl) ?_
  refine lv_iload_n C.1 C.2.1 dX12_led_2 rfl (lv_at hl 1 rfl) ?_
  obtain ⟨r3, e3, h⟩ := bnd h
  refine afI X (runV C G X q_X12_isPane k_1891 kp_54 k_1889 (rcX12 G X kd_399) (c_X12_isPane l E e3) rfl hl.1 rfl (Nat.le_of_ble_eq_true rfl) ⟨Nat.le_of_ble_eq_true rfl, Nat.le_of_ble_eq_true rfl⟩ ⟨Nat.le_of_ble_eq_true rfl, Nat.le_of_ble_eq_true rfl⟩ dX12_led_3) (fun H locs X => ?_)
  refine lv_if_ne (tgt := 13) C.1 C.2.1 dX12_led_6 (by decide) (fun c6 => ?_) (fun c6 => ?_)
  · replace h := ineg c6 h
    refine lv_iconst (v := 0) C.1 C.2.1 dX12_led_13 (by decide) ?_
    exact w_X12_led_14 C G X (lv_sub hl [0, 1, 2] rfl) h
  · replace h := ipos c6 h
    refine lv_iconst (v := 1) C.1 C.2.1 dX12_led_9 (by decide) ?_
    refine lv_goto (tgt := 14) C.1 C.2.1 dX12_led_10 (by decide) ?_
    exact w_X12_led_14 C G X (lv_sub hl [0, 1, 2] rfl) h

theorem c_X12_led (l : Launch) (E : GE) {σ : Mem} {x1 : Int32} {x2 : Int32} {r : (Int32 × Mem)} (h : X12_led x1 x2 σ = some r) : CtI l E yX12_led cX12_led 6 .int 3 [.ref (gB E + 399), .int x1, .int x2] σ r.1 r.2 := by
  refine Met.ofW (cc := cX12_led) (maxL := 6) (ret := (some .int)) (by decide) rfl ?_
  intro p e s m args below meth c s₁ B hml hv
  obtain ⟨rfl, G, X⟩ := start hv
  have C := cxof B hml
  have hl := lv_entry [.ref (gB E + 399), .int x1, .int x2] (n := 6) (Nat.le_of_ble_eq_true rfl)
  rw [lg_entry_eq]
  generalize (lg_sl [.ref (gB E + 399), .int x1, .int x2] ++ List.replicate (6 - (lg_sl [.ref (gB E + 399), .int x1, .int x2]).length) Slot.unset).toArray = ls at hl ⊢
  exact w_X12_led C G X hl h

set_option maxRecDepth 20000 in
theorem w_X12_log_15 {r : (Int32 × Mem)} {σ : Mem} {x1 : Int32} {x2 : Int32} {y1 : Int32} {ls : Array Slot} {H : Heap} {locs : List Loc} (C : Cx p s m args meth c cX12_log (some .int) 3 RX12) (G : Gf E s) (X : Hx E σ s H locs) (hl : lv_has ls 3 [(0, .ref (gB E + 399)), (1, .int x1), (2, .int x2)]) (h : X12_log_15 x1 x2 y1 σ = some r) : W p l e (RM 2) s m args below meth c H locs 0 0 (QI E below args s r.1 r.2) (F0 m 15 ls [.int y1, .ref (gB E + 399)]) := by
  rw [X12_log_15] at h
  obtain ⟨σ15, e15, h⟩ := bnd h
  refine pfX12 C G X (k := 399) kd_399 0 (x := y1) (ty := .int) rfl rfl (Nat.le_of_ble_eq_true rfl) (by decide) k_1651 rfl rfl (by decide +kernel) rfl rfl dX12_log_15 (fun H locs X => ?_)
  replace X := pu_x e15 X
  refine lv_aload_n C.1 C.2.1 dX12_log_18 rfl (lv_at hl 0 rfl) ?_
  refine gfX12 C G X (k := 399) kd_399 0 (v := .int (σ15 399 0)) rfl rfl (by decide) k_1651 rfl dX12_log_19 ?_
  refine lv_if_le (tgt := 27) C.1 C.2.1 dX12_log_22 (by decide) (fun c22 => ?_) (fun c22 => ?_)
  · replace h := ipos c22 h
    refine lv_iload_n C.1 C.2.1 dX12_log_27 rfl (lv_at hl 1 rfl) ?_
    refine lv_iconst (v := 0) C.1 C.2.1 dX12_log_28 (by decide) ?_
    refine lv_aload_n C.1 C.2.1 dX12_log_29 rfl (lv_at hl 0 rfl) ?_
    refine gfX12 C G X (k := 399) kd_399 1 (v := .ref (gB E + 400)) rfl rfl (by decide) k_1652 rfl dX12_log_30 ?_
    refine lv_bipush (v := 9) C.1 C.2.1 dX12_log_33 (by decide) ?_
    obtain ⟨r35, e35, h⟩ := bnd h
    refine ald C G X (k := 400) kd_400 (ag_s e35).1 dX12_log_35 ?_
    rw [(ag_s e35).2]
    refine lv_iconst (v := 1) C.1 C.2.1 dX12_log_36 (by decide) ?_
    refine lv_isub C.1 C.2.1 dX12_log_37 ?_
    obtain ⟨r38, e38, h⟩ := bnd h
    refine afI X (runS C G X q_X12_isIn k_1734 k_1733 (c_X12_isIn l E e38) rfl hl.1 rfl (Nat.le_of_ble_eq_true rfl) ⟨Nat.le_of_ble_eq_true rfl, Nat.le_of_ble_eq_true rfl⟩ ⟨Nat.le_of_ble_eq_true rfl, Nat.le_of_ble_eq_true rfl⟩ dX12_log_38) (fun H locs X => ?_)
    refine lv_if_eq (tgt := 53) C.1 C.2.1 dX12_log_41 (by decide) (fun c41 => ?_) (fun c41 => ?_)
    · replace h := ipos c41 h
      refine lv_bipush (v := -2) C.1 C.2.1 dX12_log_53 (by decide) ?_
      rw [← Option.some.inj h]
      exact rtI C X dX12_log_55
    · replace h := ineg c41 h
      refine lv_aload_n C.1 C.2.1 dX12_log_44 rfl (lv_at hl 0 rfl) ?_
      refine lv_iload_n C.1 C.2.1 dX12_log_45 rfl (lv_at hl 1 rfl) ?_
      refine lv_iload_n C.1 C.2.1 dX12_log_46 rfl (lv_at hl 2 rfl) ?_
      obtain ⟨r47, e47, h⟩ := bnd h
      refine afI X (runV C G X q_X12_logged k_2266 kp_101 k_2264 (rcX12 G X kd_399) (c_X12_logged l E e47) rfl hl.1 rfl (Nat.le_of_ble_eq_true rfl) ⟨Nat.le_of_ble_eq_true rfl, Nat.le_of_ble_eq_true rfl⟩ ⟨Nat.le_of_ble_eq_true rfl, Nat.le_of_ble_eq_true rfl⟩ dX12_log_47) (fun H locs X => ?_)
      refine lv_goto (tgt := 55) C.1 C.2.1 dX12_log_50 (by decide) ?_
      rw [← Option.some.inj h]
      exact rtI C X dX12_log_55
  · replace h := ineg c22 h
    refine lv_iconst (v := 0) C.1 C.2.1 dX12_log_25 (by decide) ?_
    rw [← Option.some.inj h]
    exact rtI C X dX12_log_26

set_option maxRecDepth 20000 in
theorem w_X12_log {r : (Int32 × Mem)} {σ : Mem} {x1 : Int32} {x2 : Int32} {ls : Array Slot} {H : Heap} {locs : List Loc} (C : Cx p s m args meth c cX12_log (some .int) 3 RX12) (G : Gf E s) (X : Hx E σ s H locs) (hl : lv_has ls 3 [(0, .ref (gB E + 399)), (1, .int x1), (2, .int x2)]) (h : X12_log x1 x2 σ = some r) : W p l e (RM 2) s m args below meth c H locs 0 0 (QI E below args s r.1 r.2) (F0 m 0 ls []) := by
  rw [X12_log] at h
  refine lv_aload_n C.1 C.2.1 dX12_log_0 rfl (lv_at hl 0 rfl) ?_
  refine lv_iload_n C.1 C.2.1 dX12_log_1 rfl (lv_at hl 2 rfl) ?_
  refine lv_iconst (v := 0) C.1 C.2.1 dX12_log_2 (by decide) ?_
  refine lv_iconst (v := 4) C.1 C.2.1 dX12_log_3 (by decide) ?_
  obtain ⟨r4, e4, h⟩ := bnd h
  refine afI X (runS C G X q_X12_isIn k_1734 k_1733 (c_X12_isIn l E e4) rfl hl.1 rfl (Nat.le_of_ble_eq_true rfl) ⟨Nat.le_of_ble_eq_true rfl, Nat.le_of_ble_eq_true rfl⟩ ⟨Nat.le_of_ble_eq_true rfl, Nat.le_of_ble_eq_true rfl⟩ dX12_log_4) (fun H locs X => ?_)
  refine lv_if_ne (tgt := 14) C.1 C.2.1 dX12_log_7 (by decide) (fun c7 => ?_) (fun c7 => ?_)
  · replace h := ineg c7 h
    refine lv_iconst (v := 0) C.1 C.2.1 dX12_log_14 (by decide) ?_
    exact w_X12_log_15 C G X (lv_sub hl [0, 1, 2] rfl) h
  · replace h := ipos c7 h
    refine lv_iconst (v := 1) C.1 C.2.1 dX12_log_10 (by decide) ?_
    refine lv_goto (tgt := 15) C.1 C.2.1 dX12_log_11 (by decide) ?_
    exact w_X12_log_15 C G X (lv_sub hl [0, 1, 2] rfl) h

theorem c_X12_log (l : Launch) (E : GE) {σ : Mem} {x1 : Int32} {x2 : Int32} {r : (Int32 × Mem)} (h : X12_log x1 x2 σ = some r) : CtI l E yX12_log cX12_log 3 .int 2 [.ref (gB E + 399), .int x1, .int x2] σ r.1 r.2 := by
  refine Met.ofW (cc := cX12_log) (maxL := 3) (ret := (some .int)) (by decide) rfl ?_
  intro p e s m args below meth c s₁ B hml hv
  obtain ⟨rfl, G, X⟩ := start hv
  have C := cxof B hml
  have hl := lv_entry [.ref (gB E + 399), .int x1, .int x2] (n := 3) (Nat.le_of_ble_eq_true rfl)
  rw [lg_entry_eq]
  generalize (lg_sl [.ref (gB E + 399), .int x1, .int x2] ++ List.replicate (3 - (lg_sl [.ref (gB E + 399), .int x1, .int x2]).length) Slot.unset).toArray = ls at hl ⊢
  exact w_X12_log C G X hl h

set_option maxRecDepth 20000 in
theorem w_X12_seed {r : (Int32 × Mem)} {σ : Mem} {x1 : Int32} {ls : Array Slot} {H : Heap} {locs : List Loc} (C : Cx p s m args meth c cX12_seed (some .int) 3 RX12) (G : Gf E s) (X : Hx E σ s H locs) (hl : lv_has ls 3 [(0, .ref (gB E + 399)), (1, .int x1)]) (h : X12_seed x1 σ = some r) : W p l e (RM 1) s m args below meth c H locs 0 0 (QI E below args s r.1 r.2) (F0 m 0 ls []) := by
  rw [X12_seed] at h
  refine lv_aload_n C.1 C.2.1 dX12_seed_0 rfl (lv_at hl 0 rfl) ?_
  refine lv_iconst (v := 0) C.1 C.2.1 dX12_seed_1 (by decide) ?_
  obtain ⟨σ2, e2, h⟩ := bnd h
  refine pfX12 C G X (k := 399) kd_399 0 (x := (0 : Int32)) (ty := .int) rfl rfl (Nat.le_of_ble_eq_true rfl) (by decide) k_1651 rfl rfl (by decide +kernel) rfl rfl dX12_seed_2 (fun H locs X => ?_)
  replace X := pu_x e2 X
  refine lv_aload_n C.1 C.2.1 dX12_seed_5 rfl (lv_at hl 0 rfl) ?_
  refine gfX12 C G X (k := 399) kd_399 1 (v := .ref (gB E + 400)) rfl rfl (by decide) k_1652 rfl dX12_seed_6 ?_
  refine lv_bipush (v := 10) C.1 C.2.1 dX12_seed_9 (by decide) ?_
  obtain ⟨r11, e11, h⟩ := bnd h
  refine ald C G X (k := 400) kd_400 (ag_s e11).1 dX12_seed_11 ?_
  rw [(ag_s e11).2]
  refine lv_istore_n (lv' := [(2, .int r11), (0, .ref (gB E + 399)), (1, .int x1)]) C.1 C.2.1 dX12_seed_12 rfl hl (by decide) rfl (fun ls hl => ?_)
  refine lv_aload_n C.1 C.2.1 dX12_seed_13 rfl (lv_at hl 1 rfl) ?_
  refine gfX12 C G X (k := 399) kd_399 1 (v := .ref (gB E + 400)) rfl rfl (by decide) k_1652 rfl dX12_seed_14 ?_
  refine lv_bipush (v := 10) C.1 C.2.1 dX12_seed_17 (by decide) ?_
  refine lv_iload_n C.1 C.2.1 dX12_seed_19 rfl (lv_at hl 2 rfl) ?_
  obtain ⟨σ20, e20, h⟩ := bnd h
  refine ast C G X (k := 400) kd_400 (au_s e20).1 dX12_seed_20 (fun H locs X => ?_)
  rw [(au_s e20).2] at X
  refine lv_iload_n C.1 C.2.1 dX12_seed_21 rfl (lv_at hl 0 rfl) ?_
  rw [← Option.some.inj h]
  exact rtI C X dX12_seed_22

theorem c_X12_seed (l : Launch) (E : GE) {σ : Mem} {x1 : Int32} {r : (Int32 × Mem)} (h : X12_seed x1 σ = some r) : CtI l E yX12_seed cX12_seed 3 .int 1 [.ref (gB E + 399), .int x1] σ r.1 r.2 := by
  refine Met.ofW (cc := cX12_seed) (maxL := 3) (ret := (some .int)) (by decide) rfl ?_
  intro p e s m args below meth c s₁ B hml hv
  obtain ⟨rfl, G, X⟩ := start hv
  have C := cxof B hml
  have hl := lv_entry [.ref (gB E + 399), .int x1] (n := 3) (Nat.le_of_ble_eq_true rfl)
  rw [lg_entry_eq]
  generalize (lg_sl [.ref (gB E + 399), .int x1] ++ List.replicate (3 - (lg_sl [.ref (gB E + 399), .int x1]).length) Slot.unset).toArray = ls at hl ⊢
  exact w_X12_seed C G X hl h

set_option maxRecDepth 20000 in
theorem w_X12_undo_26 {r : (Int32 × Mem)} (C : Cx p s m args meth c cX12_undo (some .boolean) 2 RX12) (G : Gf E s) : ∀ (f : Nat) {x1 : Int32} {σ : Mem} {ls : Array Slot} {H : Heap} {locs : List Loc}, Hx E σ s H locs → lv_has ls 2 [(0, .ref (gB E + 399)), (1, .int x1)] → X12_undo_26 f x1 σ = some r → W p l e (RM 1) s m args below meth c H locs 0 0 (QI E below args s r.1 r.2) (F0 m 26 ls []) := by
  intro f
  induction f with
  | zero =>
    intro x1 σ ls H locs X hl h
    rw [X12_undo_26] at h
    cases h
  | succ f ih =>
    intro x1 σ ls H locs X hl h
    rw [X12_undo_26] at h
    refine lv_iload_n C.1 C.2.1 dX12_undo_26 rfl (lv_at hl 1 rfl) ?_
    refine lv_sipush (v := 488) C.1 C.2.1 dX12_undo_27 (by decide) ?_
    refine lv_icmp_ge (tgt := 60) C.1 C.2.1 dX12_undo_30 (by decide) (fun c30 => ?_) (fun c30 => ?_)
    · replace h := ipos c30 h
      refine lv_iconst (v := 1) C.1 C.2.1 dX12_undo_60 (by decide) ?_
      obtain ⟨u61, z61, h⟩ := bnd h
      rw [← Option.some.inj h]
      exact rtZ C X (gb_s z61) dX12_undo_61
    · replace h := ineg c30 h
      refine lv_aload_n C.1 C.2.1 dX12_undo_33 rfl (lv_at hl 0 rfl) ?_
      refine gfX12 C G X (k := 399) kd_399 1 (v := .ref (gB E + 400)) rfl rfl (by decide) k_1652 rfl dX12_undo_34 ?_
      refine lv_iload_n C.1 C.2.1 dX12_undo_37 rfl (lv_at hl 1 rfl) ?_
      refine lv_aload_n C.1 C.2.1 dX12_undo_38 rfl (lv_at hl 0 rfl) ?_
      refine gfX12 C G X (k := 399) kd_399 5 (v := .ref (gB E + 403)) rfl rfl (by decide) k_1656 rfl dX12_undo_39 ?_
      refine lv_sipush (v := 488) C.1 C.2.1 dX12_undo_42 (by decide) ?_
      refine lv_aload_n C.1 C.2.1 dX12_undo_45 rfl (lv_at hl 0 rfl) ?_
      refine gfX12 C G X (k := 399) kd_399 6 (v := .int (σ 399 6)) rfl rfl (by decide) k_1657 rfl dX12_undo_46 ?_
      refine lv_imul C.1 C.2.1 dX12_undo_49 ?_
      refine lv_iload_n C.1 C.2.1 dX12_undo_50 rfl (lv_at hl 1 rfl) ?_
      refine lv_iadd C.1 C.2.1 dX12_undo_51 ?_
      obtain ⟨r52, e52, h⟩ := bnd h
      refine ald C G X (k := 403) kd_403 (ag_s e52).1 dX12_undo_52 ?_
      rw [(ag_s e52).2]
      obtain ⟨σ53, e53, h⟩ := bnd h
      refine ast C G X (k := 400) kd_400 (au_s e53).1 dX12_undo_53 (fun H locs X => ?_)
      rw [(au_s e53).2] at X
      refine lv_iinc (v := (x1 + 1)) (lv' := [(1, .int (x1 + 1)), (0, .ref (gB E + 399))]) C.1 C.2.1 dX12_undo_54 hl (k := 1) rfl rfl (by decide) rfl (fun ls hl => ?_)
      refine lv_goto (tgt := 26) C.1 C.2.1 dX12_undo_57 (by decide) ?_
      exact ih X (lv_sub hl [1, 0] rfl) h

set_option maxRecDepth 20000 in
theorem w_X12_undo {r : (Int32 × Mem)} {σ : Mem} {ls : Array Slot} {H : Heap} {locs : List Loc} (C : Cx p s m args meth c cX12_undo (some .boolean) 2 RX12) (G : Gf E s) (X : Hx E σ s H locs) (hl : lv_has ls 2 [(0, .ref (gB E + 399))]) (h : X12_undo σ = some r) : W p l e (RM 1) s m args below meth c H locs 0 0 (QI E below args s r.1 r.2) (F0 m 0 ls []) := by
  rw [X12_undo] at h
  refine lv_aload_n C.1 C.2.1 dX12_undo_0 rfl (lv_at hl 0 rfl) ?_
  refine lv_iconst (v := 0) C.1 C.2.1 dX12_undo_1 (by decide) ?_
  obtain ⟨σ2, e2, h⟩ := bnd h
  refine pfX12 C G X (k := 399) kd_399 0 (x := (0 : Int32)) (ty := .int) rfl rfl (Nat.le_of_ble_eq_true rfl) (by decide) k_1651 rfl rfl (by decide +kernel) rfl rfl dX12_undo_2 (fun H locs X => ?_)
  replace X := pu_x e2 X
  refine lv_aload_n C.1 C.2.1 dX12_undo_5 rfl (lv_at hl 0 rfl) ?_
  refine gfX12 C G X (k := 399) kd_399 6 (v := .int (σ2 399 6)) rfl rfl (by decide) k_1657 rfl dX12_undo_6 ?_
  refine lv_if_ne (tgt := 14) C.1 C.2.1 dX12_undo_9 (by decide) (fun c9 => ?_) (fun c9 => ?_)
  · replace h := ineg c9 h
    refine lv_aload_n C.1 C.2.1 dX12_undo_14 rfl (lv_at hl 0 rfl) ?_
    refine lv_dup C.1 C.2.1 dX12_undo_15 rfl ?_
    refine gfX12 C G X (k := 399) kd_399 6 (v := .int (σ2 399 6)) rfl rfl (by decide) k_1657 rfl dX12_undo_16 ?_
    refine lv_iconst (v := 1) C.1 C.2.1 dX12_undo_19 (by decide) ?_
    refine lv_isub C.1 C.2.1 dX12_undo_20 ?_
    obtain ⟨σ21, e21, h⟩ := bnd h
    refine pfX12 C G X (k := 399) kd_399 6 (x := ((σ2 399 6) - (1 : Int32))) (ty := .int) rfl rfl (Nat.le_of_ble_eq_true rfl) (by decide) k_1657 rfl rfl (by decide +kernel) rfl rfl dX12_undo_21 (fun H locs X => ?_)
    replace X := pu_x e21 X
    refine lv_iconst (v := 0) C.1 C.2.1 dX12_undo_24 (by decide) ?_
    refine lv_istore_n (lv' := [(1, .int (0 : Int32)), (0, .ref (gB E + 399))]) C.1 C.2.1 dX12_undo_25 rfl hl (by decide) rfl (fun ls hl => ?_)
    exact w_X12_undo_26 C G FU X (lv_sub hl [1, 0] rfl) h
  · replace h := ipos c9 h
    refine lv_iconst (v := 0) C.1 C.2.1 dX12_undo_12 (by decide) ?_
    obtain ⟨u13, z13, h⟩ := bnd h
    rw [← Option.some.inj h]
    exact rtZ C X (gb_s z13) dX12_undo_13

theorem c_X12_undo (l : Launch) (E : GE) {σ : Mem} {r : (Int32 × Mem)} (h : X12_undo σ = some r) : CtI l E yX12_undo cX12_undo 2 .boolean 1 [.ref (gB E + 399)] σ r.1 r.2 := by
  refine Met.ofW (cc := cX12_undo) (maxL := 2) (ret := (some .boolean)) (by decide) rfl ?_
  intro p e s m args below meth c s₁ B hml hv
  obtain ⟨rfl, G, X⟩ := start hv
  have C := cxof B hml
  have hl := lv_entry [.ref (gB E + 399)] (n := 2) (Nat.le_of_ble_eq_true rfl)
  rw [lg_entry_eq]
  generalize (lg_sl [.ref (gB E + 399)] ++ List.replicate (2 - (lg_sl [.ref (gB E + 399)]).length) Slot.unset).toArray = ls at hl ⊢
  exact w_X12_undo C G X hl h

set_option maxRecDepth 20000 in
theorem w_X12_image_7 {r : Mem} (C : Cx p s m args meth c cX12_image none 2 RX12) (G : Gf E s) : ∀ (f : Nat) {x1 : Int32} {σ : Mem} {ls : Array Slot} {H : Heap} {locs : List Loc}, Hx E σ s H locs → lv_has ls 2 [(0, .ref (gB E + 399)), (1, .int x1)] → X12_image_7 f x1 σ = some r → W p l e (RM 1) s m args below meth c H locs 0 0 (QV E below args s r) (F0 m 7 ls []) := by
  intro f
  induction f with
  | zero =>
    intro x1 σ ls H locs X hl h
    rw [X12_image_7] at h
    cases h
  | succ f ih =>
    intro x1 σ ls H locs X hl h
    rw [X12_image_7] at h
    refine lv_iload_n C.1 C.2.1 dX12_image_7 rfl (lv_at hl 1 rfl) ?_
    refine lv_sipush (v := 888) C.1 C.2.1 dX12_image_8 (by decide) ?_
    refine lv_icmp_ge (tgt := 32) C.1 C.2.1 dX12_image_11 (by decide) (fun c11 => ?_) (fun c11 => ?_)
    · replace h := ipos c11 h
      refine lv_aload_n C.1 C.2.1 dX12_image_32 rfl (lv_at hl 0 rfl) ?_
      refine lv_iconst (v := 1) C.1 C.2.1 dX12_image_33 (by decide) ?_
      obtain ⟨u34, z34, h⟩ := bnd h
      obtain ⟨σ34, e34, h⟩ := bnd h
      refine pfX12 C G X (k := 399) kd_399 3 (x := (1 : Int32)) (ty := .boolean) rfl rfl (Nat.le_of_ble_eq_true rfl) (by decide) k_1654 rfl rfl (by decide +kernel) (gb_s z34).1 (gb_s z34).2 dX12_image_34 (fun H locs X => ?_)
      replace X := pu_x e34 X
      rw [← Option.some.inj h]
      exact rtV C X dX12_image_37
    · replace h := ineg c11 h
      refine lv_aload_n C.1 C.2.1 dX12_image_14 rfl (lv_at hl 0 rfl) ?_
      refine gfX12 C G X (k := 399) kd_399 2 (v := .ref (gB E + 401)) rfl rfl (by decide) k_1653 rfl dX12_image_15 ?_
      refine lv_iload_n C.1 C.2.1 dX12_image_18 rfl (lv_at hl 1 rfl) ?_
      refine lv_aload_n C.1 C.2.1 dX12_image_19 rfl (lv_at hl 0 rfl) ?_
      refine gfX12 C G X (k := 399) kd_399 1 (v := .ref (gB E + 400)) rfl rfl (by decide) k_1652 rfl dX12_image_20 ?_
      refine lv_iload_n C.1 C.2.1 dX12_image_23 rfl (lv_at hl 1 rfl) ?_
      obtain ⟨r24, e24, h⟩ := bnd h
      refine ald C G X (k := 400) kd_400 (ag_s e24).1 dX12_image_24 ?_
      rw [(ag_s e24).2]
      obtain ⟨σ25, e25, h⟩ := bnd h
      refine ast C G X (k := 401) kd_401 (au_s e25).1 dX12_image_25 (fun H locs X => ?_)
      rw [(au_s e25).2] at X
      refine lv_iinc (v := (x1 + 1)) (lv' := [(1, .int (x1 + 1)), (0, .ref (gB E + 399))]) C.1 C.2.1 dX12_image_26 hl (k := 1) rfl rfl (by decide) rfl (fun ls hl => ?_)
      refine lv_goto (tgt := 7) C.1 C.2.1 dX12_image_29 (by decide) ?_
      exact ih X (lv_sub hl [1, 0] rfl) h

set_option maxRecDepth 20000 in
theorem w_X12_image {r : Mem} {σ : Mem} {ls : Array Slot} {H : Heap} {locs : List Loc} (C : Cx p s m args meth c cX12_image none 2 RX12) (G : Gf E s) (X : Hx E σ s H locs) (hl : lv_has ls 2 [(0, .ref (gB E + 399))]) (h : X12_image σ = some r) : W p l e (RM 1) s m args below meth c H locs 0 0 (QV E below args s r) (F0 m 0 ls []) := by
  rw [X12_image] at h
  refine lv_aload_n C.1 C.2.1 dX12_image_0 rfl (lv_at hl 0 rfl) ?_
  refine lv_iconst (v := 0) C.1 C.2.1 dX12_image_1 (by decide) ?_
  obtain ⟨σ2, e2, h⟩ := bnd h
  refine pfX12 C G X (k := 399) kd_399 0 (x := (0 : Int32)) (ty := .int) rfl rfl (Nat.le_of_ble_eq_true rfl) (by decide) k_1651 rfl rfl (by decide +kernel) rfl rfl dX12_image_2 (fun H locs X => ?_)
  replace X := pu_x e2 X
  refine lv_iconst (v := 0) C.1 C.2.1 dX12_image_5 (by decide) ?_
  refine lv_istore_n (lv' := [(1, .int (0 : Int32)), (0, .ref (gB E + 399))]) C.1 C.2.1 dX12_image_6 rfl hl (by decide) rfl (fun ls hl => ?_)
  exact w_X12_image_7 C G FU X (lv_sub hl [1, 0] rfl) h

theorem c_X12_image (l : Launch) (E : GE) {σ : Mem} {r : Mem} (h : X12_image σ = some r) : CtV l E yX12_image cX12_image 2 1 [.ref (gB E + 399)] σ r := by
  refine Met.ofW (cc := cX12_image) (maxL := 2) (ret := none) (by decide) rfl ?_
  intro p e s m args below meth c s₁ B hml hv
  obtain ⟨rfl, G, X⟩ := start hv
  have C := cxof B hml
  have hl := lv_entry [.ref (gB E + 399)] (n := 2) (Nat.le_of_ble_eq_true rfl)
  rw [lg_entry_eq]
  generalize (lg_sl [.ref (gB E + 399)] ++ List.replicate (2 - (lg_sl [.ref (gB E + 399)]).length) Slot.unset).toArray = ls at hl ⊢
  exact w_X12_image C G X hl h

set_option maxRecDepth 20000 in
theorem w_X12_back_16 {r : (Int32 × Mem)} (C : Cx p s m args meth c cX12_back (some .boolean) 2 RX12) (G : Gf E s) : ∀ (f : Nat) {x1 : Int32} {σ : Mem} {ls : Array Slot} {H : Heap} {locs : List Loc}, Hx E σ s H locs → lv_has ls 2 [(0, .ref (gB E + 399)), (1, .int x1)] → X12_back_16 f x1 σ = some r → W p l e (RM 1) s m args below meth c H locs 0 0 (QI E below args s r.1 r.2) (F0 m 16 ls []) := by
  intro f
  induction f with
  | zero =>
    intro x1 σ ls H locs X hl h
    rw [X12_back_16] at h
    cases h
  | succ f ih =>
    intro x1 σ ls H locs X hl h
    rw [X12_back_16] at h
    refine lv_iload_n C.1 C.2.1 dX12_back_16 rfl (lv_at hl 1 rfl) ?_
    refine lv_sipush (v := 888) C.1 C.2.1 dX12_back_17 (by decide) ?_
    refine lv_icmp_ge (tgt := 41) C.1 C.2.1 dX12_back_20 (by decide) (fun c20 => ?_) (fun c20 => ?_)
    · replace h := ipos c20 h
      refine lv_aload_n C.1 C.2.1 dX12_back_41 rfl (lv_at hl 0 rfl) ?_
      refine lv_iconst (v := 0) C.1 C.2.1 dX12_back_42 (by decide) ?_
      obtain ⟨σ43, e43, h⟩ := bnd h
      refine pfX12 C G X (k := 399) kd_399 6 (x := (0 : Int32)) (ty := .int) rfl rfl (Nat.le_of_ble_eq_true rfl) (by decide) k_1657 rfl rfl (by decide +kernel) rfl rfl dX12_back_43 (fun H locs X => ?_)
      replace X := pu_x e43 X
      refine lv_iconst (v := 1) C.1 C.2.1 dX12_back_46 (by decide) ?_
      obtain ⟨u47, z47, h⟩ := bnd h
      rw [← Option.some.inj h]
      exact rtZ C X (gb_s z47) dX12_back_47
    · replace h := ineg c20 h
      refine lv_aload_n C.1 C.2.1 dX12_back_23 rfl (lv_at hl 0 rfl) ?_
      refine gfX12 C G X (k := 399) kd_399 1 (v := .ref (gB E + 400)) rfl rfl (by decide) k_1652 rfl dX12_back_24 ?_
      refine lv_iload_n C.1 C.2.1 dX12_back_27 rfl (lv_at hl 1 rfl) ?_
      refine lv_aload_n C.1 C.2.1 dX12_back_28 rfl (lv_at hl 0 rfl) ?_
      refine gfX12 C G X (k := 399) kd_399 2 (v := .ref (gB E + 401)) rfl rfl (by decide) k_1653 rfl dX12_back_29 ?_
      refine lv_iload_n C.1 C.2.1 dX12_back_32 rfl (lv_at hl 1 rfl) ?_
      obtain ⟨r33, e33, h⟩ := bnd h
      refine ald C G X (k := 401) kd_401 (ag_s e33).1 dX12_back_33 ?_
      rw [(ag_s e33).2]
      obtain ⟨σ34, e34, h⟩ := bnd h
      refine ast C G X (k := 400) kd_400 (au_s e34).1 dX12_back_34 (fun H locs X => ?_)
      rw [(au_s e34).2] at X
      refine lv_iinc (v := (x1 + 1)) (lv' := [(1, .int (x1 + 1)), (0, .ref (gB E + 399))]) C.1 C.2.1 dX12_back_35 hl (k := 1) rfl rfl (by decide) rfl (fun ls hl => ?_)
      refine lv_goto (tgt := 16) C.1 C.2.1 dX12_back_38 (by decide) ?_
      exact ih X (lv_sub hl [1, 0] rfl) h

set_option maxRecDepth 20000 in
theorem w_X12_back {r : (Int32 × Mem)} {σ : Mem} {ls : Array Slot} {H : Heap} {locs : List Loc} (C : Cx p s m args meth c cX12_back (some .boolean) 2 RX12) (G : Gf E s) (X : Hx E σ s H locs) (hl : lv_has ls 2 [(0, .ref (gB E + 399))]) (h : X12_back σ = some r) : W p l e (RM 1) s m args below meth c H locs 0 0 (QI E below args s r.1 r.2) (F0 m 0 ls []) := by
  rw [X12_back] at h
  refine lv_aload_n C.1 C.2.1 dX12_back_0 rfl (lv_at hl 0 rfl) ?_
  refine lv_iconst (v := 0) C.1 C.2.1 dX12_back_1 (by decide) ?_
  obtain ⟨σ2, e2, h⟩ := bnd h
  refine pfX12 C G X (k := 399) kd_399 0 (x := (0 : Int32)) (ty := .int) rfl rfl (Nat.le_of_ble_eq_true rfl) (by decide) k_1651 rfl rfl (by decide +kernel) rfl rfl dX12_back_2 (fun H locs X => ?_)
  replace X := pu_x e2 X
  refine lv_aload_n C.1 C.2.1 dX12_back_5 rfl (lv_at hl 0 rfl) ?_
  refine gfX12 C G X (k := 399) kd_399 3 (v := .int (σ2 399 3)) rfl rfl (by decide) k_1654 rfl dX12_back_6 ?_
  refine lv_if_ne (tgt := 14) C.1 C.2.1 dX12_back_9 (by decide) (fun c9 => ?_) (fun c9 => ?_)
  · replace h := ineg c9 h
    refine lv_iconst (v := 0) C.1 C.2.1 dX12_back_14 (by decide) ?_
    refine lv_istore_n (lv' := [(1, .int (0 : Int32)), (0, .ref (gB E + 399))]) C.1 C.2.1 dX12_back_15 rfl hl (by decide) rfl (fun ls hl => ?_)
    exact w_X12_back_16 C G FU X (lv_sub hl [1, 0] rfl) h
  · replace h := ipos c9 h
    refine lv_iconst (v := 0) C.1 C.2.1 dX12_back_12 (by decide) ?_
    obtain ⟨u13, z13, h⟩ := bnd h
    rw [← Option.some.inj h]
    exact rtZ C X (gb_s z13) dX12_back_13

theorem c_X12_back (l : Launch) (E : GE) {σ : Mem} {r : (Int32 × Mem)} (h : X12_back σ = some r) : CtI l E yX12_back cX12_back 2 .boolean 1 [.ref (gB E + 399)] σ r.1 r.2 := by
  refine Met.ofW (cc := cX12_back) (maxL := 2) (ret := (some .boolean)) (by decide) rfl ?_
  intro p e s m args below meth c s₁ B hml hv
  obtain ⟨rfl, G, X⟩ := start hv
  have C := cxof B hml
  have hl := lv_entry [.ref (gB E + 399)] (n := 2) (Nat.le_of_ble_eq_true rfl)
  rw [lg_entry_eq]
  generalize (lg_sl [.ref (gB E + 399)] ++ List.replicate (2 - (lg_sl [.ref (gB E + 399)]).length) Slot.unset).toArray = ls at hl ⊢
  exact w_X12_back C G X hl h

set_option maxRecDepth 20000 in
theorem w_X12_waysOf_36 {r : Int32} {σ : Mem} {rc4 : Int32 → Int32 → Option Int32} {rc16 : Int32 → Int32 → Int32 → Option Int32} {x2 : Int32} {x3 : Int32} {y0 : Int32} {y1 : Int32} {ls : Array Slot} {H : Heap} {locs : List Loc} (C : Cx p s m args meth c cX12_waysOf (some .int) 4 RX12) (G : Gf E s) (hr4 : ∀ {x1 : Int32} {x2 : Int32} {ls : Array Slot} {H : Heap} {locs : List Loc}, Hx E σ s H locs → lv_has ls 4 [(0, .ref (gB E + 399)), (1, .int x1), (2, .int x2)] → rc4 x1 x2 = some r → W p l e (RM 2) s m args below meth c H locs 0 0 (QI E below args s r σ) (F0 m 4 ls [])) (hr16 : ∀ {x1 : Int32} {x2 : Int32} {x3 : Int32} {ls : Array Slot} {H : Heap} {locs : List Loc}, Hx E σ s H locs → lv_has ls 4 [(0, .ref (gB E + 399)), (1, .int x1), (2, .int x2), (3, .int x3)] → rc16 x1 x2 x3 = some r → W p l e (RM 2) s m args below meth c H locs 0 0 (QI E below args s r σ) (F0 m 16 ls [])) (X : Hx E σ s H locs) (hl : lv_has ls 4 [(0, .ref (gB E + 399)), (2, .int x2), (3, .int x3)]) (h : X12_waysOf_36 σ rc4 rc16 x2 x3 y0 y1 = some r) : W p l e (RM 2) s m args below meth c H locs 0 0 (QI E below args s r σ) (F0 m 36 ls [.int y1, .int y0]) := by
  rw [X12_waysOf_36] at h
  refine lv_iadd C.1 C.2.1 dX12_waysOf_36 ?_
  refine lv_istore_n (lv' := [(1, .int (y0 + y1)), (0, .ref (gB E + 399)), (2, .int x2), (3, .int x3)]) C.1 C.2.1 dX12_waysOf_37 rfl hl (by decide) rfl (fun ls hl => ?_)
  refine lv_iinc (v := (x3 + 1)) (lv' := [(3, .int (x3 + 1)), (1, .int (y0 + y1)), (0, .ref (gB E + 399)), (2, .int x2)]) C.1 C.2.1 dX12_waysOf_38 hl (k := 3) rfl rfl (by decide) rfl (fun ls hl => ?_)
  refine lv_goto (tgt := 16) C.1 C.2.1 dX12_waysOf_41 (by decide) ?_
  exact hr16 X (lv_sub hl [2, 1, 3, 0] rfl) h

set_option maxRecDepth 20000 in
theorem w_X12_waysOf_16 {r : Int32} {σ : Mem} {rc4 : Int32 → Int32 → Option Int32} (C : Cx p s m args meth c cX12_waysOf (some .int) 4 RX12) (G : Gf E s) (hr4 : ∀ {x1 : Int32} {x2 : Int32} {ls : Array Slot} {H : Heap} {locs : List Loc}, Hx E σ s H locs → lv_has ls 4 [(0, .ref (gB E + 399)), (1, .int x1), (2, .int x2)] → rc4 x1 x2 = some r → W p l e (RM 2) s m args below meth c H locs 0 0 (QI E below args s r σ) (F0 m 4 ls [])) : ∀ (f : Nat) {x1 : Int32} {x2 : Int32} {x3 : Int32} {ls : Array Slot} {H : Heap} {locs : List Loc}, Hx E σ s H locs → lv_has ls 4 [(0, .ref (gB E + 399)), (1, .int x1), (2, .int x2), (3, .int x3)] → X12_waysOf_16 σ rc4 f x1 x2 x3 = some r → W p l e (RM 2) s m args below meth c H locs 0 0 (QI E below args s r σ) (F0 m 16 ls []) := by
  intro f
  induction f with
  | zero =>
    intro x1 x2 x3 ls H locs X hl h
    rw [X12_waysOf_16] at h
    cases h
  | succ f ih =>
    intro x1 x2 x3 ls H locs X hl h
    rw [X12_waysOf_16] at h
    refine lv_iload_n C.1 C.2.1 dX12_waysOf_16 rfl (lv_at hl 3 rfl) ?_
    refine lv_iload_n C.1 C.2.1 dX12_waysOf_17 rfl (lv_at hl 2 rfl) ?_
    refine lv_icmp_ge (tgt := 44) C.1 C.2.1 dX12_waysOf_18 (by decide) (fun c18 => ?_) (fun c18 => ?_)
    · replace h := ipos c18 h
      refine lv_iinc (v := (x2 + 1)) (lv' := [(2, .int (x2 + 1)), (0, .ref (gB E + 399)), (1, .int x1), (3, .int x3)]) C.1 C.2.1 dX12_waysOf_44 hl (k := 2) rfl rfl (by decide) rfl (fun ls hl => ?_)
      refine lv_goto (tgt := 4) C.1 C.2.1 dX12_waysOf_47 (by decide) ?_
      exact hr4 X (lv_sub hl [1, 2, 0] rfl) h
    · replace h := ineg c18 h
      refine lv_iload_n C.1 C.2.1 dX12_waysOf_21 rfl (lv_at hl 1 rfl) ?_
      refine lv_aload_n C.1 C.2.1 dX12_waysOf_22 rfl (lv_at hl 0 rfl) ?_
      refine lv_iload_n C.1 C.2.1 dX12_waysOf_23 rfl (lv_at hl 2 rfl) ?_
      refine lv_iload_n C.1 C.2.1 dX12_waysOf_24 rfl (lv_at hl 3 rfl) ?_
      obtain ⟨r25, e25, h⟩ := bnd h
      refine afI X (runV C G X q_X12_isWay k_1951 kp_68 k_1949 (rcX12 G X kd_399) (c_X12_isWay l E e25) rfl hl.1 rfl (Nat.le_of_ble_eq_true rfl) ⟨Nat.le_of_ble_eq_true rfl, Nat.le_of_ble_eq_true rfl⟩ ⟨Nat.le_of_ble_eq_true rfl, Nat.le_of_ble_eq_true rfl⟩ dX12_waysOf_25) (fun H locs X => ?_)
      refine lv_if_eq (tgt := 35) C.1 C.2.1 dX12_waysOf_28 (by decide) (fun c28 => ?_) (fun c28 => ?_)
      · replace h := ipos c28 h
        refine lv_iconst (v := 0) C.1 C.2.1 dX12_waysOf_35 (by decide) ?_
        exact w_X12_waysOf_36 C G hr4 ih X (lv_sub hl [0, 2, 3] rfl) h
      · replace h := ineg c28 h
        refine lv_iconst (v := 1) C.1 C.2.1 dX12_waysOf_31 (by decide) ?_
        refine lv_goto (tgt := 36) C.1 C.2.1 dX12_waysOf_32 (by decide) ?_
        exact w_X12_waysOf_36 C G hr4 ih X (lv_sub hl [0, 2, 3] rfl) h

set_option maxRecDepth 20000 in
theorem w_X12_waysOf_4 {r : Int32} {σ : Mem} (C : Cx p s m args meth c cX12_waysOf (some .int) 4 RX12) (G : Gf E s) : ∀ (f : Nat) {x1 : Int32} {x2 : Int32} {ls : Array Slot} {H : Heap} {locs : List Loc}, Hx E σ s H locs → lv_has ls 4 [(0, .ref (gB E + 399)), (1, .int x1), (2, .int x2)] → X12_waysOf_4 σ f x1 x2 = some r → W p l e (RM 2) s m args below meth c H locs 0 0 (QI E below args s r σ) (F0 m 4 ls []) := by
  intro f
  induction f with
  | zero =>
    intro x1 x2 ls H locs X hl h
    rw [X12_waysOf_4] at h
    cases h
  | succ f ih =>
    intro x1 x2 ls H locs X hl h
    rw [X12_waysOf_4] at h
    refine lv_iload_n C.1 C.2.1 dX12_waysOf_4 rfl (lv_at hl 2 rfl) ?_
    refine lv_aload_n C.1 C.2.1 dX12_waysOf_5 rfl (lv_at hl 0 rfl) ?_
    refine gfX12 C G X (k := 399) kd_399 1 (v := .ref (gB E + 400)) rfl rfl (by decide) k_1652 rfl dX12_waysOf_6 ?_
    refine lv_iconst (v := 3) C.1 C.2.1 dX12_waysOf_9 (by decide) ?_
    obtain ⟨r10, e10, h⟩ := bnd h
    refine ald C G X (k := 400) kd_400 (ag_s e10).1 dX12_waysOf_10 ?_
    rw [(ag_s e10).2]
    refine lv_icmp_ge (tgt := 50) C.1 C.2.1 dX12_waysOf_11 (by decide) (fun c11 => ?_) (fun c11 => ?_)
    · replace h := ipos c11 h
      refine lv_iload_n C.1 C.2.1 dX12_waysOf_50 rfl (lv_at hl 1 rfl) ?_
      rw [← Option.some.inj h]
      exact rtI C X dX12_waysOf_51
    · replace h := ineg c11 h
      refine lv_iconst (v := 0) C.1 C.2.1 dX12_waysOf_14 (by decide) ?_
      refine lv_istore_n (lv' := [(3, .int (0 : Int32)), (0, .ref (gB E + 399)), (1, .int x1), (2, .int x2)]) C.1 C.2.1 dX12_waysOf_15 rfl hl (by decide) rfl (fun ls hl => ?_)
      exact w_X12_waysOf_16 C G ih FU X (lv_sub hl [1, 2, 3, 0] rfl) h

set_option maxRecDepth 20000 in
theorem w_X12_waysOf {r : Int32} {σ : Mem} {ls : Array Slot} {H : Heap} {locs : List Loc} (C : Cx p s m args meth c cX12_waysOf (some .int) 4 RX12) (G : Gf E s) (X : Hx E σ s H locs) (hl : lv_has ls 4 [(0, .ref (gB E + 399))]) (h : X12_waysOf σ = some r) : W p l e (RM 2) s m args below meth c H locs 0 0 (QI E below args s r σ) (F0 m 0 ls []) := by
  rw [X12_waysOf] at h
  refine lv_iconst (v := 0) C.1 C.2.1 dX12_waysOf_0 (by decide) ?_
  refine lv_istore_n (lv' := [(1, .int (0 : Int32)), (0, .ref (gB E + 399))]) C.1 C.2.1 dX12_waysOf_1 rfl hl (by decide) rfl (fun ls hl => ?_)
  refine lv_iconst (v := 0) C.1 C.2.1 dX12_waysOf_2 (by decide) ?_
  refine lv_istore_n (lv' := [(2, .int (0 : Int32)), (1, .int (0 : Int32)), (0, .ref (gB E + 399))]) C.1 C.2.1 dX12_waysOf_3 rfl hl (by decide) rfl (fun ls hl => ?_)
  exact w_X12_waysOf_4 C G FU X (lv_sub hl [2, 1, 0] rfl) h

theorem c_X12_waysOf (l : Launch) (E : GE) {σ : Mem} {r : Int32} (h : X12_waysOf σ = some r) : CtI l E yX12_waysOf cX12_waysOf 4 .int 2 [.ref (gB E + 399)] σ r σ := by
  refine Met.ofW (cc := cX12_waysOf) (maxL := 4) (ret := (some .int)) (by decide) rfl ?_
  intro p e s m args below meth c s₁ B hml hv
  obtain ⟨rfl, G, X⟩ := start hv
  have C := cxof B hml
  have hl := lv_entry [.ref (gB E + 399)] (n := 4) (Nat.le_of_ble_eq_true rfl)
  rw [lg_entry_eq]
  generalize (lg_sl [.ref (gB E + 399)] ++ List.replicate (4 - (lg_sl [.ref (gB E + 399)]).length) Slot.unset).toArray = ls at hl ⊢
  exact w_X12_waysOf C G X hl h

set_option maxRecDepth 20000 in
theorem w_X12_count {r : (Int32 × Mem)} {σ : Mem} {x1 : Int32} {ls : Array Slot} {H : Heap} {locs : List Loc} (C : Cx p s m args meth c cX12_count (some .int) 2 RX12) (G : Gf E s) (X : Hx E σ s H locs) (hl : lv_has ls 2 [(0, .ref (gB E + 399)), (1, .int x1)]) (h : X12_count x1 σ = some r) : W p l e (RM 3) s m args below meth c H locs 0 0 (QI E below args s r.1 r.2) (F0 m 0 ls []) := by
  rw [X12_count] at h
  refine lv_aload_n C.1 C.2.1 dX12_count_0 rfl (lv_at hl 0 rfl) ?_
  refine lv_iconst (v := 0) C.1 C.2.1 dX12_count_1 (by decide) ?_
  obtain ⟨σ2, e2, h⟩ := bnd h
  refine pfX12 C G X (k := 399) kd_399 0 (x := (0 : Int32)) (ty := .int) rfl rfl (Nat.le_of_ble_eq_true rfl) (by decide) k_1651 rfl rfl (by decide +kernel) rfl rfl dX12_count_2 (fun H locs X => ?_)
  replace X := pu_x e2 X
  refine lv_iload_n C.1 C.2.1 dX12_count_5 rfl (lv_at hl 1 rfl) ?_
  refine lv_if_ne (tgt := 16) C.1 C.2.1 dX12_count_6 (by decide) (fun c6 => ?_) (fun c6 => ?_)
  · replace h := ineg c6 h
    refine lv_iload_n C.1 C.2.1 dX12_count_16 rfl (lv_at hl 1 rfl) ?_
    refine lv_iconst (v := 1) C.1 C.2.1 dX12_count_17 (by decide) ?_
    refine lv_icmp_ne (tgt := 28) C.1 C.2.1 dX12_count_18 (by decide) (fun c18 => ?_) (fun c18 => ?_)
    · replace h := ineg c18 h
      refine lv_iload_n C.1 C.2.1 dX12_count_28 rfl (lv_at hl 1 rfl) ?_
      refine lv_iconst (v := 2) C.1 C.2.1 dX12_count_29 (by decide) ?_
      refine lv_icmp_ne (tgt := 40) C.1 C.2.1 dX12_count_30 (by decide) (fun c30 => ?_) (fun c30 => ?_)
      · replace h := ineg c30 h
        refine lv_iload_n C.1 C.2.1 dX12_count_40 rfl (lv_at hl 1 rfl) ?_
        refine lv_iconst (v := 3) C.1 C.2.1 dX12_count_41 (by decide) ?_
        refine lv_icmp_ne (tgt := 52) C.1 C.2.1 dX12_count_42 (by decide) (fun c42 => ?_) (fun c42 => ?_)
        · replace h := ineg c42 h
          refine lv_iload_n C.1 C.2.1 dX12_count_52 rfl (lv_at hl 1 rfl) ?_
          refine lv_iconst (v := 4) C.1 C.2.1 dX12_count_53 (by decide) ?_
          refine lv_bipush (v := 7) C.1 C.2.1 dX12_count_54 (by decide) ?_
          obtain ⟨r56, e56, h⟩ := bnd h
          refine afI X (runS C G X q_X12_isIn k_1734 k_1733 (c_X12_isIn l E e56) rfl hl.1 rfl (Nat.le_of_ble_eq_true rfl) ⟨Nat.le_of_ble_eq_true rfl, Nat.le_of_ble_eq_true rfl⟩ ⟨Nat.le_of_ble_eq_true rfl, Nat.le_of_ble_eq_true rfl⟩ dX12_count_56) (fun H locs X => ?_)
          refine lv_if_eq (tgt := 73) C.1 C.2.1 dX12_count_59 (by decide) (fun c59 => ?_) (fun c59 => ?_)
          · replace h := ipos c59 h
            refine lv_iload_n C.1 C.2.1 dX12_count_73 rfl (lv_at hl 1 rfl) ?_
            refine lv_bipush (v := 8) C.1 C.2.1 dX12_count_74 (by decide) ?_
            refine lv_icmp_ne (tgt := 84) C.1 C.2.1 dX12_count_76 (by decide) (fun c76 => ?_) (fun c76 => ?_)
            · replace h := ineg c76 h
              refine lv_iload_n C.1 C.2.1 dX12_count_84 rfl (lv_at hl 1 rfl) ?_
              refine lv_bipush (v := 9) C.1 C.2.1 dX12_count_85 (by decide) ?_
              refine lv_icmp_ne (tgt := 95) C.1 C.2.1 dX12_count_87 (by decide) (fun c87 => ?_) (fun c87 => ?_)
              · replace h := ineg c87 h
                refine lv_iload_n C.1 C.2.1 dX12_count_95 rfl (lv_at hl 1 rfl) ?_
                refine lv_bipush (v := 10) C.1 C.2.1 dX12_count_96 (by decide) ?_
                refine lv_icmp_ne (tgt := 106) C.1 C.2.1 dX12_count_98 (by decide) (fun c98 => ?_) (fun c98 => ?_)
                · replace h := ineg c98 h
                  refine lv_iload_n C.1 C.2.1 dX12_count_106 rfl (lv_at hl 1 rfl) ?_
                  refine lv_bipush (v := 11) C.1 C.2.1 dX12_count_107 (by decide) ?_
                  refine lv_icmp_ne (tgt := 120) C.1 C.2.1 dX12_count_109 (by decide) (fun c109 => ?_) (fun c109 => ?_)
                  · replace h := ineg c109 h
                    refine lv_iload_n C.1 C.2.1 dX12_count_120 rfl (lv_at hl 1 rfl) ?_
                    refine lv_bipush (v := 12) C.1 C.2.1 dX12_count_121 (by decide) ?_
                    refine lv_icmp_ne (tgt := 133) C.1 C.2.1 dX12_count_123 (by decide) (fun c123 => ?_) (fun c123 => ?_)
                    · replace h := ineg c123 h
                      refine lv_iconst (v := -1) C.1 C.2.1 dX12_count_133 (by decide) ?_
                      rw [← Option.some.inj h]
                      exact rtI C X dX12_count_134
                    · replace h := ipos c123 h
                      refine lv_aload_n C.1 C.2.1 dX12_count_126 rfl (lv_at hl 0 rfl) ?_
                      refine gfX12 C G X (k := 399) kd_399 6 (v := .int (σ2 399 6)) rfl rfl (by decide) k_1657 rfl dX12_count_127 ?_
                      refine lv_goto (tgt := 134) C.1 C.2.1 dX12_count_130 (by decide) ?_
                      rw [← Option.some.inj h]
                      exact rtI C X dX12_count_134
                  · replace h := ipos c109 h
                    refine lv_aload_n C.1 C.2.1 dX12_count_112 rfl (lv_at hl 0 rfl) ?_
                    refine gfX12 C G X (k := 399) kd_399 1 (v := .ref (gB E + 400)) rfl rfl (by decide) k_1652 rfl dX12_count_113 ?_
                    refine lv_bipush (v := 9) C.1 C.2.1 dX12_count_116 (by decide) ?_
                    obtain ⟨r118, e118, h⟩ := bnd h
                    refine ald C G X (k := 400) kd_400 (ag_s e118).1 dX12_count_118 ?_
                    rw [(ag_s e118).2]
                    rw [← Option.some.inj h]
                    exact rtI C X dX12_count_119
                · replace h := ipos c98 h
                  refine lv_aload_n C.1 C.2.1 dX12_count_101 rfl (lv_at hl 0 rfl) ?_
                  obtain ⟨r102, e102, h⟩ := bnd h
                  refine afI X (runV C G X q_X12_waysOf k_2294 kp_102 k_2292 (rcX12 G X kd_399) (c_X12_waysOf l E e102) rfl hl.1 rfl (Nat.le_of_ble_eq_true rfl) ⟨Nat.le_of_ble_eq_true rfl, Nat.le_of_ble_eq_true rfl⟩ ⟨Nat.le_of_ble_eq_true rfl, Nat.le_of_ble_eq_true rfl⟩ dX12_count_102) (fun H locs X => ?_)
                  rw [← Option.some.inj h]
                  exact rtI C X dX12_count_105
              · replace h := ipos c87 h
                refine lv_aload_n C.1 C.2.1 dX12_count_90 rfl (lv_at hl 0 rfl) ?_
                obtain ⟨r91, e91, h⟩ := bnd h
                refine afI X (runV C G X q_X12_litOfAll k_1994 kp_76 k_1992 (rcX12 G X kd_399) (c_X12_litOfAll l E e91) rfl hl.1 rfl (Nat.le_of_ble_eq_true rfl) ⟨Nat.le_of_ble_eq_true rfl, Nat.le_of_ble_eq_true rfl⟩ ⟨Nat.le_of_ble_eq_true rfl, Nat.le_of_ble_eq_true rfl⟩ dX12_count_91) (fun H locs X => ?_)
                rw [← Option.some.inj h]
                exact rtI C X dX12_count_94
            · replace h := ipos c76 h
              refine lv_aload_n C.1 C.2.1 dX12_count_79 rfl (lv_at hl 0 rfl) ?_
              obtain ⟨r80, e80, h⟩ := bnd h
              refine afI X (runV C G X q_X12_oilOfAll k_2254 kp_100 k_2252 (rcX12 G X kd_399) (c_X12_oilOfAll l E e80) rfl hl.1 rfl (Nat.le_of_ble_eq_true rfl) ⟨Nat.le_of_ble_eq_true rfl, Nat.le_of_ble_eq_true rfl⟩ ⟨Nat.le_of_ble_eq_true rfl, Nat.le_of_ble_eq_true rfl⟩ dX12_count_80) (fun H locs X => ?_)
              rw [← Option.some.inj h]
              exact rtI C X dX12_count_83
          · replace h := ineg c59 h
            refine lv_aload_n C.1 C.2.1 dX12_count_62 rfl (lv_at hl 0 rfl) ?_
            refine gfX12 C G X (k := 399) kd_399 1 (v := .ref (gB E + 400)) rfl rfl (by decide) k_1652 rfl dX12_count_63 ?_
            refine lv_iconst (v := 5) C.1 C.2.1 dX12_count_66 (by decide) ?_
            refine lv_iload_n C.1 C.2.1 dX12_count_67 rfl (lv_at hl 1 rfl) ?_
            refine lv_iadd C.1 C.2.1 dX12_count_68 ?_
            refine lv_iconst (v := 4) C.1 C.2.1 dX12_count_69 (by decide) ?_
            refine lv_isub C.1 C.2.1 dX12_count_70 ?_
            obtain ⟨r71, e71, h⟩ := bnd h
            refine ald C G X (k := 400) kd_400 (ag_s e71).1 dX12_count_71 ?_
            rw [(ag_s e71).2]
            rw [← Option.some.inj h]
            exact rtI C X dX12_count_72
        · replace h := ipos c42 h
          refine lv_aload_n C.1 C.2.1 dX12_count_45 rfl (lv_at hl 0 rfl) ?_
          refine gfX12 C G X (k := 399) kd_399 1 (v := .ref (gB E + 400)) rfl rfl (by decide) k_1652 rfl dX12_count_46 ?_
          refine lv_iconst (v := 1) C.1 C.2.1 dX12_count_49 (by decide) ?_
          obtain ⟨r50, e50, h⟩ := bnd h
          refine ald C G X (k := 400) kd_400 (ag_s e50).1 dX12_count_50 ?_
          rw [(ag_s e50).2]
          rw [← Option.some.inj h]
          exact rtI C X dX12_count_51
      · replace h := ipos c30 h
        refine lv_aload_n C.1 C.2.1 dX12_count_33 rfl (lv_at hl 0 rfl) ?_
        refine gfX12 C G X (k := 399) kd_399 1 (v := .ref (gB E + 400)) rfl rfl (by decide) k_1652 rfl dX12_count_34 ?_
        refine lv_iconst (v := 0) C.1 C.2.1 dX12_count_37 (by decide) ?_
        obtain ⟨r38, e38, h⟩ := bnd h
        refine ald C G X (k := 400) kd_400 (ag_s e38).1 dX12_count_38 ?_
        rw [(ag_s e38).2]
        rw [← Option.some.inj h]
        exact rtI C X dX12_count_39
    · replace h := ipos c18 h
      refine lv_aload_n C.1 C.2.1 dX12_count_21 rfl (lv_at hl 0 rfl) ?_
      refine gfX12 C G X (k := 399) kd_399 1 (v := .ref (gB E + 400)) rfl rfl (by decide) k_1652 rfl dX12_count_22 ?_
      refine lv_iconst (v := 4) C.1 C.2.1 dX12_count_25 (by decide) ?_
      obtain ⟨r26, e26, h⟩ := bnd h
      refine ald C G X (k := 400) kd_400 (ag_s e26).1 dX12_count_26 ?_
      rw [(ag_s e26).2]
      rw [← Option.some.inj h]
      exact rtI C X dX12_count_27
  · replace h := ipos c6 h
    refine lv_aload_n C.1 C.2.1 dX12_count_9 rfl (lv_at hl 0 rfl) ?_
    refine gfX12 C G X (k := 399) kd_399 1 (v := .ref (gB E + 400)) rfl rfl (by decide) k_1652 rfl dX12_count_10 ?_
    refine lv_iconst (v := 3) C.1 C.2.1 dX12_count_13 (by decide) ?_
    obtain ⟨r14, e14, h⟩ := bnd h
    refine ald C G X (k := 400) kd_400 (ag_s e14).1 dX12_count_14 ?_
    rw [(ag_s e14).2]
    rw [← Option.some.inj h]
    exact rtI C X dX12_count_15

theorem c_X12_count (l : Launch) (E : GE) {σ : Mem} {x1 : Int32} {r : (Int32 × Mem)} (h : X12_count x1 σ = some r) : CtI l E yX12_count cX12_count 2 .int 3 [.ref (gB E + 399), .int x1] σ r.1 r.2 := by
  refine Met.ofW (cc := cX12_count) (maxL := 2) (ret := (some .int)) (by decide) rfl ?_
  intro p e s m args below meth c s₁ B hml hv
  obtain ⟨rfl, G, X⟩ := start hv
  have C := cxof B hml
  have hl := lv_entry [.ref (gB E + 399), .int x1] (n := 2) (Nat.le_of_ble_eq_true rfl)
  rw [lg_entry_eq]
  generalize (lg_sl [.ref (gB E + 399), .int x1] ++ List.replicate (2 - (lg_sl [.ref (gB E + 399), .int x1]).length) Slot.unset).toArray = ls at hl ⊢
  exact w_X12_count C G X hl h

end WALK

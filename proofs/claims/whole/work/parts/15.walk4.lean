def X1_boundsThatFit_84 (σ : Mem) (rc6 : Nat → Int32 → Int32 → Int32 → Option Int32) (rc19 : Nat → Int32 → Int32 → Int32 → Int32 → Int32 → Option Int32) (a1 : Nat) (x3 : Int32) (x4 : Int32) (x5 : Int32) (x7 : Int32) (y0 : Int32) (y1 : Int32) : Option Int32 :=
  rc19 a1 x3 x4 x5 (y0 &&& y1) (x7 + 3)
def X1_boundsThatFit_76 (σ : Mem) (rc6 : Nat → Int32 → Int32 → Int32 → Option Int32) (rc19 : Nat → Int32 → Int32 → Int32 → Int32 → Int32 → Option Int32) (a1 : Nat) (x3 : Int32) (x4 : Int32) (x5 : Int32) (x7 : Int32) (y0 : Int32) (y1 : Int32) (y2 : Int32) : Option Int32 :=
  if y1 = y2 then
    X1_boundsThatFit_84 σ rc6 rc19 a1 x3 x4 x5 x7 y0 (1 : Int32)
  else
    X1_boundsThatFit_84 σ rc6 rc19 a1 x3 x4 x5 x7 y0 (0 : Int32)
def X1_boundsThatFit_59 (σ : Mem) (rc6 : Nat → Int32 → Int32 → Int32 → Option Int32) (rc19 : Nat → Int32 → Int32 → Int32 → Int32 → Int32 → Option Int32) (a1 : Nat) (x3 : Int32) (x4 : Int32) (x5 : Int32) (x7 : Int32) (y0 : Int32) (y1 : Int32) : Option Int32 :=
  bd (X10_byteAt σ (x7 + (2 : Int32))) fun r64 =>
  if r64 = (1 : Int32) then
    X1_boundsThatFit_76 σ rc6 rc19 a1 x3 x4 x5 x7 y0 y1 (1 : Int32)
  else
    X1_boundsThatFit_76 σ rc6 rc19 a1 x3 x4 x5 x7 y0 y1 (0 : Int32)
def X1_boundsThatFit_19 (σ : Mem) (rc6 : Nat → Int32 → Int32 → Int32 → Option Int32) : Nat → Nat → Int32 → Int32 → Int32 → Int32 → Int32 → Option Int32
  | 0, _, _, _, _, _, _ => none
  | f + 1, a1, x3, x4, x5, x6, x7 =>
    if x3 ≤ x7 then
      if x6 = 0 then
        rc6 a1 x3 x4 (x5 + 1)
      else
        bd (X11_bit σ x5) fun r102 =>
        rc6 a1 x3 (x4 ||| r102) (x5 + 1)
    else
      bd (X10_byteAt σ x7) fun r29 =>
      bd (X10_byteAt σ (x7 + (1 : Int32))) fun r37 =>
      bd (X7_likesFor σ a1 r29 r37) fun r40 =>
      if r40 < x5 then
        X1_boundsThatFit_59 σ rc6 (X1_boundsThatFit_19 σ rc6 f) a1 x3 x4 x5 x7 x6 (0 : Int32)
      else
        X1_boundsThatFit_59 σ rc6 (X1_boundsThatFit_19 σ rc6 f) a1 x3 x4 x5 x7 x6 (1 : Int32)
def X1_boundsThatFit_6 (σ : Mem) : Nat → Nat → Int32 → Int32 → Int32 → Option Int32
  | 0, _, _, _, _ => none
  | f + 1, a1, x3, x4, x5 =>
    if (9 : Int32) < x5 then
      some (x4)
    else
      X1_boundsThatFit_19 σ (X1_boundsThatFit_6 σ f) FU a1 x3 x4 x5 (1 : Int32) (0 : Int32)
def X1_boundsThatFit (σ : Mem) (a1 : Nat) (x3 : Int32) : Option Int32 :=
  X1_boundsThatFit_6 σ FU a1 x3 (0 : Int32) (1 : Int32)
def X11_learnt (σ : Mem) : Option ((Int32 ⊕ Nat) × Mem) :=
  bd2 (X10_useUp σ) fun r4 σ4 =>
  bd (X1_areRows σ4 9 r4) fun r21 =>
  if r21 = 0 then
    some (.inr 2, σ4)
  else
    bd (X1_boundsThatFit σ4 9 r4) fun r51 =>
    some (.inl r51, σ4)
def X7_giveOneByOne_46 (rc2 : Nat → Int32 → Int32 → Mem → Option Mem) (rc12 : Nat → Int32 → Int32 → Int32 → Int32 → Mem → Option Mem) (a0 : Nat) (x1 : Int32) (x2 : Int32) (x4 : Int32) (σ : Mem) : Option Mem :=
  rc12 a0 x1 x2 x4 (x4 + 1) σ
def X7_giveOneByOne_12 (rc2 : Nat → Int32 → Int32 → Mem → Option Mem) : Nat → Nat → Int32 → Int32 → Int32 → Int32 → Mem → Option Mem
  | 0, _, _, _, _, _, _ => none
  | f + 1, a0, x1, x2, x3, x4, σ =>
    if (σ a0 0) ≤ x4 then
      if x3 = (-1 : Int32) then
        some σ
      else
        bd (X6_get σ (a0 + 1) x3) fun r65 =>
        if r65 < (99 : Int32) then
          bd (X6_add (a0 + 1) x3 (1 : Int32) σ) fun σ80 =>
          rc2 a0 x1 (x2 + 1) σ80
        else
          some σ
    else
      if x3 = (-1 : Int32) then
        X7_giveOneByOne_46 rc2 (X7_giveOneByOne_12 rc2 f) a0 x1 x2 x4 σ
      else
        bd (X6_get σ (a0 + 1) x4) fun r32 =>
        bd (X6_get σ (a0 + 1) x3) fun r40 =>
        if r40 ≤ r32 then
          X7_giveOneByOne_12 rc2 f a0 x1 x2 x3 (x4 + 1) σ
        else
          X7_giveOneByOne_46 rc2 (X7_giveOneByOne_12 rc2 f) a0 x1 x2 x4 σ
def X7_giveOneByOne_2 : Nat → Nat → Int32 → Int32 → Mem → Option Mem
  | 0, _, _, _, _ => none
  | f + 1, a0, x1, x2, σ =>
    if x1 ≤ x2 then
      some σ
    else
      X7_giveOneByOne_12 (X7_giveOneByOne_2 f) FU a0 x1 x2 (-1 : Int32) (0 : Int32) σ
def X7_giveOneByOne (a0 : Nat) (x1 : Int32) (σ : Mem) : Option Mem :=
  X7_giveOneByOne_2 FU a0 x1 (0 : Int32) σ
def X11_share (x1 : Int32) (x2 : Int32) (σ : Mem) : Option ((Int32 ⊕ Nat) × Mem) :=
  bdx (X11_needPane σ x1) (fun _ =>
    bdx (X11_needNumber σ x2 (0 : Int32) (999 : Int32)) (fun _ =>
      bd (X7_copyFrom 30 9 σ) fun σ21 =>
      bd (X7_giveOneByOne 30 x2 σ21) fun σ29 =>
      bd (X6_get σ29 31 x1) fun r40 =>
      some (.inl r40, σ29))
     (fun x10_ =>
      some (.inr x10_, σ))
)
   (fun x2_ =>
    some (.inr x2_, σ))

def X1_gain (σ : Mem) (x1 : Int32) (x2 : Int32) (x3 : Int32) : Option Int32 :=
  if x1 = (1 : Int32) then
    if x2 = 0 then
      some ((4 : Int32))
    else
      some ((0 : Int32))
  else
    if x2 = 0 then
      some ((x3 - (3 : Int32)))
    else
      some ((-2 : Int32))
def X1_restingChoices_78 (σ : Mem) (rc5 : Int32 → Int32 → Int32 → Int32 → Option Int32) (rc14 : Int32 → Int32 → Int32 → Int32 → Int32 → Option Int32) (x1 : Int32) (x2 : Int32) (x3 : Int32) (x4 : Int32) (x5 : Int32) (x6 : Int32) (y0 : Int32) : Option Int32 :=
  if x6 = 0 then
    rc14 x1 x2 x3 x4 (x5 + 1)
  else
    if y0 = 0 then
      rc14 x1 x2 x3 x4 (x5 + 1)
    else
      bd (X11_bit σ (((2 : Int32) * x4) + x5)) fun r98 =>
      rc14 x1 x2 (x3 ||| r98) x4 (x5 + 1)
def X1_restingChoices_48 (σ : Mem) (rc5 : Int32 → Int32 → Int32 → Int32 → Option Int32) (rc14 : Int32 → Int32 → Int32 → Int32 → Int32 → Option Int32) (x1 : Int32) (x2 : Int32) (x3 : Int32) (x4 : Int32) (x5 : Int32) (y0 : Int32) : Option Int32 :=
  bd (X1_gain σ x5 x4 x2) fun r56 =>
  bd (X1_gain σ ((1 : Int32) - x5) x4 x2) fun r67 =>
  if r56 < r67 then
    X1_restingChoices_78 σ rc5 rc14 x1 x2 x3 x4 x5 y0 (0 : Int32)
  else
    X1_restingChoices_78 σ rc5 rc14 x1 x2 x3 x4 x5 y0 (1 : Int32)
def X1_restingChoices_14 (σ : Mem) (rc5 : Int32 → Int32 → Int32 → Int32 → Option Int32) : Nat → Int32 → Int32 → Int32 → Int32 → Int32 → Option Int32
  | 0, _, _, _, _, _ => none
  | f + 1, x1, x2, x3, x4, x5 =>
    if (2 : Int32) ≤ x5 then
      rc5 x1 x2 x3 (x4 + 1)
    else
      bd (X1_gain σ x4 x5 x1) fun r26 =>
      bd (X1_gain σ ((1 : Int32) - x4) x5 x1) fun r37 =>
      if r26 < r37 then
        X1_restingChoices_48 σ rc5 (X1_restingChoices_14 σ rc5 f) x1 x2 x3 x4 x5 (0 : Int32)
      else
        X1_restingChoices_48 σ rc5 (X1_restingChoices_14 σ rc5 f) x1 x2 x3 x4 x5 (1 : Int32)
def X1_restingChoices_5 (σ : Mem) : Nat → Int32 → Int32 → Int32 → Int32 → Option Int32
  | 0, _, _, _, _ => none
  | f + 1, x1, x2, x3, x4 =>
    if (2 : Int32) ≤ x4 then
      some (x3)
    else
      X1_restingChoices_14 σ (X1_restingChoices_5 σ f) FU x1 x2 x3 x4 (0 : Int32)
def X1_restingChoices (σ : Mem) (x1 : Int32) (x2 : Int32) : Option Int32 :=
  X1_restingChoices_5 σ FU x1 x2 (0 : Int32) (0 : Int32)
def X11_rests (σ : Mem) (x1 : Int32) (x2 : Int32) : Option (Int32 ⊕ Nat) :=
  bdx (X11_needTwoWalkers σ x1 x2) (fun _ =>
    bd (X7_likesOf σ 9 x1 x2) fun r16 =>
    bd (X7_likesOf σ 9 x2 x1) fun r25 =>
    bd (X1_restingChoices σ r16 r25) fun r28 =>
    some (.inl r28))
   (fun x3_ =>
    some (.inr x3_))

def X0_power_5 (σ : Mem) : Nat → Int32 → Int32 → Int64 → Int32 → Option Int64
  | 0, _, _, _, _ => none
  | f + 1, x0, x1, j2, x4 =>
    if x1 ≤ x4 then
      some (j2)
    else
      X0_power_5 σ f x0 x1 (j2 * x0.toInt64) (x4 + 1)
def X0_power (σ : Mem) (x0 : Int32) (x1 : Int32) : Option Int64 :=
  X0_power_5 σ FU x0 x1 (1 : Int64) (0 : Int32)
def X0_mistOdds_18 (σ : Mem) (rc6 : Int32 → Int32 → Int64 → Int32 → Option Int32) : Nat → Int32 → Int32 → Int64 → Int32 → Int64 → Int32 → Option Int32
  | 0, _, _, _, _, _, _ => none
  | f + 1, x1, x2, j4, x6, j7, x9 =>
    if x6 ≤ x9 then
      bd (X0_power σ x1 x6) fun r54 =>
      bd (X0_power σ ((100 : Int32) - x1) (x2 - x6)) fun r66 =>
      rc6 x1 x2 (j4 + ((j7 * r54) * r66)) (x6 + 1)
    else
      bd (gzl ((x9 + (1 : Int32)).toInt64)) fun _ =>
      bd (some (((j7 * ((x2 - x9).toInt64)) / ((x9 + (1 : Int32)).toInt64)))) fun v39 =>
      X0_mistOdds_18 σ rc6 f x1 x2 j4 x6 v39 (x9 + 1)
def X0_mistOdds_6 (σ : Mem) : Nat → Int32 → Int32 → Int64 → Int32 → Option Int32
  | 0, _, _, _, _ => none
  | f + 1, x1, x2, j4, x6 =>
    if x2 < x6 then
      bd (X0_power σ (100 : Int32) x2) fun r82 =>
      if 0 < (lg_cmp r82 (0 : Int64)) then
        bd (gzl r82) fun _ =>
        some (((j4 * (10000 : Int64)) / r82).toInt32)
      else
        some ((0 : Int32))
    else
      X0_mistOdds_18 σ (X0_mistOdds_6 σ f) FU x1 x2 j4 x6 (1 : Int64) (0 : Int32)
def X0_mistOdds (σ : Mem) (x1 : Int32) (x2 : Int32) (x3 : Int32) : Option Int32 :=
  X0_mistOdds_6 σ FU x1 x2 (0 : Int64) x3
def X11_odds (σ : Mem) (x1 : Int32) (x2 : Int32) : Option (Int32 ⊕ Nat) :=
  bdx (X11_needNumber σ x1 (0 : Int32) (6 : Int32)) (fun _ =>
    bdx (X11_needNumber σ x2 (0 : Int32) (6 : Int32)) (fun _ =>
      bd (X0_mistOdds σ (σ 9 5) x1 x2) fun r27 =>
      some (.inl r27))
     (fun x11_ =>
      some (.inr x11_))
)
   (fun x4_ =>
    some (.inr x4_))

def X11_bright (σ : Mem) : Option Int32 :=
  some ((σ 9 8))
def X7_darkest_36 (σ : Mem) (rc4 : Nat → Int32 → Int32 → Option Int32) (a0 : Nat) (x2 : Int32) : Option Int32 :=
  rc4 a0 x2 (x2 + 1)
def X7_darkest_4 (σ : Mem) : Nat → Nat → Int32 → Int32 → Option Int32
  | 0, _, _, _ => none
  | f + 1, a0, x1, x2 =>
    if (σ a0 0) ≤ x2 then
      some (x1)
    else
      if x1 = (-1 : Int32) then
        X7_darkest_36 σ (X7_darkest_4 σ f) a0 x2
      else
        bd (X6_get σ (a0 + 5) x2) fun r22 =>
        bd (X6_get σ (a0 + 5) x1) fun r30 =>
        if r22 ≤ r30 then
          X7_darkest_4 σ f a0 x1 (x2 + 1)
        else
          X7_darkest_36 σ (X7_darkest_4 σ f) a0 x2
def X7_darkest (σ : Mem) (a0 : Nat) : Option Int32 :=
  X7_darkest_4 σ FU a0 (-1 : Int32) (0 : Int32)
def X11_gloom (σ : Mem) : Option Int32 :=
  bd (X7_darkest σ 9) fun r4 =>
  some (r4)
def X7_busiest_6 (σ : Mem) : Nat → Nat → Int32 → Int32 → Int32 → Option Int32
  | 0, _, _, _, _ => none
  | f + 1, a0, x1, x2, x3 =>
    if (σ a0 1) ≤ x3 then
      some (x1)
    else
      bd (X6_get σ (a0 + 15) x3) fun r19 =>
      if r19 ≤ x2 then
        X7_busiest_6 σ f a0 x1 x2 (x3 + 1)
      else
        bd (X6_get σ (a0 + 15) x3) fun r31 =>
        X7_busiest_6 σ f a0 x3 r31 (x3 + 1)
def X7_busiest (σ : Mem) (a0 : Nat) : Option Int32 :=
  X7_busiest_6 σ FU a0 (-1 : Int32) (0 : Int32) (0 : Int32)
def X11_lamplighter (σ : Mem) : Option Int32 :=
  bd (X7_busiest σ 9) fun r4 =>
  some (r4)
def X7_withoutTaper_4 (σ : Mem) : Nat → Nat → Int32 → Int32 → Option Int32
  | 0, _, _, _ => none
  | f + 1, a0, x1, x2 =>
    if (σ a0 1) ≤ x2 then
      some (x1)
    else
      bd (X6_get σ (a0 + 11) x2) fun r17 =>
      if r17 = 0 then
        bd (X11_bit σ x2) fun r25 =>
        X7_withoutTaper_4 σ f a0 (x1 ||| r25) (x2 + 1)
      else
        X7_withoutTaper_4 σ f a0 x1 (x2 + 1)
def X7_withoutTaper (σ : Mem) (a0 : Nat) : Option Int32 :=
  X7_withoutTaper_4 σ FU a0 (0 : Int32) (0 : Int32)
def X11_spent (σ : Mem) : Option Int32 :=
  bd (X7_withoutTaper σ 9) fun r4 =>
  some (r4)
def X7_fullest_49 (σ : Mem) (rc6 : Nat → Int32 → Int32 → Int32 → Option Int32) (rc20 : Nat → Int32 → Int32 → Int32 → Int32 → Int32 → Option Int32) (a0 : Nat) (x1 : Int32) (x2 : Int32) (x3 : Int32) (x5 : Int32) (y0 : Int32) (y1 : Int32) : Option Int32 :=
  rc20 a0 x1 x2 x3 (y0 + y1) (x5 + 1)
def X7_fullest_20 (σ : Mem) (rc6 : Nat → Int32 → Int32 → Int32 → Option Int32) : Nat → Nat → Int32 → Int32 → Int32 → Int32 → Int32 → Option Int32
  | 0, _, _, _, _, _, _ => none
  | f + 1, a0, x1, x2, x3, x4, x5 =>
    if (σ a0 1) ≤ x5 then
      if x4 ≤ x2 then
        rc6 a0 x1 x2 (x3 + 1)
      else
        rc6 a0 x3 x4 (x3 + 1)
    else
      bd (X6_get σ (a0 + 9) x5) fun r37 =>
      if r37 = x3 then
        X7_fullest_49 σ rc6 (X7_fullest_20 σ rc6 f) a0 x1 x2 x3 x5 x4 (1 : Int32)
      else
        X7_fullest_49 σ rc6 (X7_fullest_20 σ rc6 f) a0 x1 x2 x3 x5 x4 (0 : Int32)
def X7_fullest_6 (σ : Mem) : Nat → Nat → Int32 → Int32 → Int32 → Option Int32
  | 0, _, _, _, _ => none
  | f + 1, a0, x1, x2, x3 =>
    if (σ a0 0) ≤ x3 then
      some (x1)
    else
      X7_fullest_20 σ (X7_fullest_6 σ f) FU a0 x1 x2 x3 (0 : Int32) (0 : Int32)
def X7_fullest (σ : Mem) (a0 : Nat) : Option Int32 :=
  X7_fullest_6 σ FU a0 (-1 : Int32) (0 : Int32) (0 : Int32)
def X11_crowd (σ : Mem) : Option Int32 :=
  bd (X7_fullest σ 9) fun r4 =>
  some (r4)
def X7_likePairs_16 (σ : Mem) (rc4 : Nat → Int32 → Int32 → Option Int32) : Nat → Nat → Int32 → Int32 → Int32 → Option Int32
  | 0, _, _, _, _ => none
  | f + 1, a0, x1, x2, x3 =>
    if (σ a0 1) ≤ x3 then
      rc4 a0 x1 (x2 + 1)
    else
      bd (X6_get σ (a0 + 11) x2) fun r29 =>
      bd (X6_get σ (a0 + 11) x3) fun r37 =>
      if r29 = r37 then
        bd (X6_get σ (a0 + 9) x2) fun r48 =>
        bd (X6_get σ (a0 + 9) x3) fun r56 =>
        if r48 = r56 then
          X7_likePairs_16 σ rc4 f a0 (x1 + 1) x2 (x3 + 1)
        else
          X7_likePairs_16 σ rc4 f a0 x1 x2 (x3 + 1)
      else
        X7_likePairs_16 σ rc4 f a0 x1 x2 (x3 + 1)
def X7_likePairs_4 (σ : Mem) : Nat → Nat → Int32 → Int32 → Option Int32
  | 0, _, _, _ => none
  | f + 1, a0, x1, x2 =>
    if (σ a0 1) ≤ x2 then
      some (x1)
    else
      X7_likePairs_16 σ (X7_likePairs_4 σ f) FU a0 x1 x2 (x2 + (1 : Int32))
def X7_likePairs (σ : Mem) (a0 : Nat) : Option Int32 :=
  X7_likePairs_4 σ FU a0 (0 : Int32) (0 : Int32)
def X11_alike (σ : Mem) : Option Int32 :=
  bd (X7_likePairs σ 9) fun r4 =>
  some (r4)
def X0_after_20 : Nat → Nat → Int32 → Int32 → Int32 → Mem → Option Mem
  | 0, _, _, _, _, _ => none
  | f + 1, a2, x3, x4, x6, σ =>
    if x3 ≤ x6 then
      some σ
    else
      bd2 (X0_tick 366 a2 x4 σ) fun r34 σ34 =>
      X0_after_20 f a2 x3 x4 (x6 + 1) σ34
def X0_after (a1 : Nat) (a2 : Nat) (x3 : Int32) (x4 : Int32) (x5 : Int32) (σ : Mem) : Option Mem :=
  bd (X7_copyFrom 366 a1 σ) fun σ5 =>
  bd (pu σ5 366 7 x5) fun σ14 =>
  X0_after_20 FU a2 x3 x4 (0 : Int32) σ14
def X11_ahead_21 (σ : Mem) : Option ((Int32 ⊕ Nat) × Mem) :=
  some (.inr 4, σ)
def X11_ahead (x1 : Int32) (x2 : Int32) (x3 : Int32) (σ : Mem) : Option ((Int32 ⊕ Nat) × Mem) :=
  bdx (X11_needPane σ x1) (fun _ =>
    bdx (X11_needNumber σ x2 (0 : Int32) (60 : Int32)) (fun _ =>
      if x3 < 0 then
        X11_ahead_21 σ
      else
        if x3 ≤ (2 : Int32) then
          bd (X0_after 9 72 x2 (0 : Int32) (σ 9 7) σ) fun σ53 =>
          if x3 = 0 then
            bd (X6_get σ53 367 x1) fun r68 =>
            some (.inl r68, σ53)
          else
            if x3 = (1 : Int32) then
              bd (X7_isBurning σ53 366 x1) fun r80 =>
              if r80 = 0 then
                some (.inl (0 : Int32), σ53)
              else
                some (.inl (1 : Int32), σ53)
            else
              bd (X6_get σ53 371 x1) fun r98 =>
              some (.inl r98, σ53)
        else
          X11_ahead_21 σ)
     (fun x9_ =>
      some (.inr x9_, σ))
)
   (fun x2_ =>
    some (.inr x2_, σ))

def X7_oilOfAll_4 (σ : Mem) : Nat → Nat → Int32 → Int32 → Option Int32
  | 0, _, _, _ => none
  | f + 1, a0, x1, x2 =>
    if (σ a0 0) ≤ x2 then
      some (x1)
    else
      bd (X6_get σ (a0 + 1) x2) fun r18 =>
      X7_oilOfAll_4 σ f a0 (x1 + r18) (x2 + 1)
def X7_oilOfAll (σ : Mem) (a0 : Nat) : Option Int32 :=
  X7_oilOfAll_4 σ FU a0 (0 : Int32) (0 : Int32)
def X11_trial (x1 : Int32) (x2 : Int32) (σ : Mem) : Option ((Int32 ⊕ Nat) × Mem) :=
  bdx (X11_needNumber σ x1 (0 : Int32) (60 : Int32)) (fun _ =>
    bd (X0_after 9 72 x1 (1 : Int32) (σ 9 7) σ) fun σ28 =>
    if x2 = 0 then
      some (.inl (σ28 366 8), σ28)
    else
      bd (X7_oilOfAll σ28 366) fun r37 =>
      some (.inl r37, σ28))
   (fun x4_ =>
    some (.inr x4_, σ))

def X11_span_74 (rc21 : Int32 → Int32 → Int32 → Int32 → Mem → Option ((Int32 ⊕ Nat) × Mem)) (x1 : Int32) (x2 : Int32) (x4 : Int32) (y0 : Int32) (σ : Mem) : Option ((Int32 ⊕ Nat) × Mem) :=
  rc21 x1 x2 y0 (x4 + 1) σ
def X11_span_21 : Nat → Int32 → Int32 → Int32 → Int32 → Mem → Option ((Int32 ⊕ Nat) × Mem)
  | 0, _, _, _, _, _ => none
  | f + 1, x1, x2, x3, x4, σ =>
    if (6 : Int32) < x4 then
      some (.inl x3, σ)
    else
      bd (X0_after 9 72 x1 (1 : Int32) x4 σ) fun σ44 =>
      bd (J6_bitCount_0f7a4 σ44 (σ44 366 8)) fun r50 =>
      if x2 = 0 then
        X11_span_74 (X11_span_21 f) x1 x2 x4 (if r50 < x3 then r50 else x3) σ44
      else
        X11_span_74 (X11_span_21 f) x1 x2 x4 (if x3 < r50 then r50 else x3) σ44
def X11_span_17 (x1 : Int32) (x2 : Int32) (y0 : Int32) (σ : Mem) : Option ((Int32 ⊕ Nat) × Mem) :=
  X11_span_21 FU x1 x2 y0 (1 : Int32) σ
def X11_span (x1 : Int32) (x2 : Int32) (σ : Mem) : Option ((Int32 ⊕ Nat) × Mem) :=
  bdx (X11_needNumber σ x1 (0 : Int32) (60 : Int32)) (fun _ =>
    if x2 = 0 then
      X11_span_17 x1 x2 (9 : Int32) σ
    else
      X11_span_17 x1 x2 (0 : Int32) σ)
   (fun x4_ =>
    some (.inr x4_, σ))

def X7_rows (σ : Mem) (a0 : Nat) : Option Int32 :=
  some ((if (60 : Int32) < (σ a0 19) then (60 : Int32) else (σ a0 19)))
def X7_readRow (σ : Mem) (a0 : Nat) (x1 : Int32) (x2 : Int32) : Option Int32 :=
  bd (X6_get σ (a0 + 19) ((((σ a0 19) - (1 : Int32)) - x1) - (((σ a0 19) - (1 : Int32)) - x1) / (60 : Int32) * (60 : Int32))) fun r15 =>
  if x2 = (0 : Int32) then
    some ((r15 >>> ((14 : Int32) &&& 31)))
  else
    if x2 = (1 : Int32) then
      some (((r15 >>> ((9 : Int32) &&& 31)) &&& (31 : Int32)))
    else
      if x2 = (2 : Int32) then
        some (((r15 >>> ((7 : Int32) &&& 31)) &&& (3 : Int32)))
      else
        if x2 = (3 : Int32) then
          some (((r15 >>> ((3 : Int32) &&& 31)) &&& (15 : Int32)))
        else
          some (((r15 &&& (7 : Int32)) - (1 : Int32)))
def X11_led_21 (σ : Mem) : Nat → Int32 → Int32 → Int32 → Int32 → Int32 → Option (Int32 ⊕ Nat)
  | 0, _, _, _, _, _ => none
  | f + 1, x1, x2, x3, x4, x5 =>
    if x5 < 0 then
      if x2 = 0 then
        some (.inl x3)
      else
        some (.inl x4)
    else
      bd (X7_readRow σ 9 x5 (3 : Int32)) fun r33 =>
      if r33 = x1 then
        bd (X7_readRow σ 9 x5 (0 : Int32)) fun r50 =>
        X11_led_21 σ f x1 x2 (x3 + 1) r50 (x5 + (-1))
      else
        X11_led_21 σ f x1 x2 x3 x4 (x5 + (-1))
def X11_led (σ : Mem) (x1 : Int32) (x2 : Int32) : Option (Int32 ⊕ Nat) :=
  bdx (X11_needPane σ x1) (fun _ =>
    bd (X7_rows σ 9) fun r14 =>
    X11_led_21 σ FU x1 x2 (0 : Int32) (-1 : Int32) (r14 - (1 : Int32)))
   (fun x2_ =>
    some (.inr x2_))

def X11_log_9 (σ : Mem) : Option (Int32 ⊕ Nat) :=
  some (.inr 4)
def X11_log (σ : Mem) (x1 : Int32) (x2 : Int32) : Option (Int32 ⊕ Nat) :=
  if x2 < 0 then
    X11_log_9 σ
  else
    if x2 ≤ (4 : Int32) then
      if x1 < 0 then
        some (.inl (-2 : Int32))
      else
        bd (X7_rows σ 9) fun r29 =>
        if x1 < r29 then
          bd (X7_readRow σ 9 x1 x2) fun r44 =>
          some (.inl r44)
        else
          some (.inl (-2 : Int32))
    else
      X11_log_9 σ
def X11_seed (x1 : Int32) (σ : Mem) : Option (Int32 × Mem) :=
  bd (pu σ 9 7 x1) fun σ13 =>
  some ((σ 9 7), σ13)
def X2_recall (a1 : Nat) (σ : Mem) : Option (Int32 × Mem) :=
  bd (some (((((σ 111 1) + (12 : Int32)) - (1 : Int32)) - (((σ 111 1) + (12 : Int32)) - (1 : Int32)) / (12 : Int32) * (12 : Int32)))) fun v12 =>
  bd (X2_slotAt σ v12) fun r15 =>
  if (σ 111 2) ≤ 0 then
    bd (gb (0 : Int32)) fun _ =>
    some ((0 : Int32), σ)
  else
    match r15 with
    | none =>
      bd (gb (0 : Int32)) fun _ =>
      some ((0 : Int32), σ)
    | some r27 =>
      bd (gk2 r27) fun _ =>
      bd (X7_copyFrom a1 r27 σ) fun σ34 =>
      bd (pu σ34 111 1 v12) fun σ39 =>
      bd (pu σ39 111 2 ((σ39 111 2) - (1 : Int32))) fun σ49 =>
      bd (gb (1 : Int32)) fun _ =>
      some ((1 : Int32), σ49)
def X11_undo (σ : Mem) : Option (Int32 × Mem) :=
  bd2 (X2_recall 9 σ) fun r8 σ8 =>
  bd (gb r8) fun _ =>
  some (r8, σ8)
def X11_image (σ : Mem) : Option Mem :=
  bd (X7_copyFrom 51 9 σ) fun σ8 =>
  bd (X3_copyFrom 98 72 σ8) fun σ19 =>
  bd (gb (1 : Int32)) fun _ =>
  bd (pu σ19 0 7 (1 : Int32)) fun σ24 =>
  some σ24
def X11_back (σ : Mem) : Option (Int32 × Mem) :=
  if (σ 0 7) = 0 then
    bd (gb (0 : Int32)) fun _ =>
    some ((0 : Int32), σ)
  else
    bd (X7_copyFrom 9 51 σ) fun σ17 =>
    bd (X3_copyFrom 72 98 σ17) fun σ28 =>
    bd (X2_forget σ28) fun σ35 =>
    bd (gb (1 : Int32)) fun _ =>
    some ((1 : Int32), σ35)
def X7_openWays_4 (σ : Mem) : Nat → Nat → Int32 → Int32 → Option Int32
  | 0, _, _, _ => none
  | f + 1, a0, x1, x2 =>
    if (σ a0 0) ≤ x2 then
      some ((x1 / (2 : Int32)))
    else
      bd (X6_get σ (a0 + 7) x2) fun r18 =>
      bd (J6_bitCount_0f7a4 σ r18) fun r21 =>
      X7_openWays_4 σ f a0 (x1 + r21) (x2 + 1)
def X7_openWays (σ : Mem) (a0 : Nat) : Option Int32 :=
  X7_openWays_4 σ FU a0 (0 : Int32) (0 : Int32)
def X11_count (σ : Mem) (x1 : Int32) : Option Int32 :=
  if x1 = (0 : Int32) then
    some ((σ 9 0))
  else
    if x1 = (1 : Int32) then
      some ((σ 9 1))
    else
      if x1 = (2 : Int32) then
        some ((σ 9 2))
      else
        if x1 = (3 : Int32) then
          some ((σ 72 0))
        else
          if x1 = (4 : Int32) then
            some ((σ 9 3))
          else
            if x1 = (5 : Int32) then
              some ((σ 9 4))
            else
              if x1 = (6 : Int32) then
                some ((σ 9 5))
              else
                if x1 = (7 : Int32) then
                  if (σ 9 6) = 0 then
                    some ((0 : Int32))
                  else
                    some ((1 : Int32))
                else
                  if x1 = (8 : Int32) then
                    bd (X7_oilOfAll σ 9) fun r144 =>
                    some (r144)
                  else
                    if x1 = (9 : Int32) then
                      bd (X7_litByAll σ 9) fun r152 =>
                      some (r152)
                    else
                      if x1 = (10 : Int32) then
                        bd (X7_openWays σ 9) fun r160 =>
                        some (r160)
                      else
                        if x1 = (11 : Int32) then
                          bd (X7_rows σ 9) fun r168 =>
                          some (r168)
                        else
                          if x1 = (12 : Int32) then
                            some ((σ 111 2))
                          else
                            some ((-1 : Int32))
def X12_thrown (σ : Mem) : Option Int32 :=
  some ((σ 399 0))
def X12_isIn (σ : Mem) (x0 : Int32) (x1 : Int32) (x2 : Int32) : Option Int32 :=
  if x0 < x1 then
    bd (gb (0 : Int32)) fun _ =>
    some ((0 : Int32))
  else
    if x2 < x0 then
      bd (gb (0 : Int32)) fun _ =>
      some ((0 : Int32))
    else
      bd (gb (1 : Int32)) fun _ =>
      some ((1 : Int32))
def X12_lesser (σ : Mem) (x0 : Int32) (x1 : Int32) : Option Int32 :=
  if x1 ≤ x0 then
    some (x1)
  else
    some (x0)
def X12_greater (σ : Mem) (x0 : Int32) (x1 : Int32) : Option Int32 :=
  if x0 ≤ x1 then
    some (x1)
  else
    some (x0)
def X12_isOf (σ : Mem) (x0 : Int32) (x1 : Int32) : Option Int32 :=
  if ((x0 >>> (x1 &&& 31)) &&& (1 : Int32)) = (1 : Int32) then
    bd (gb (1 : Int32)) fun _ =>
    some ((1 : Int32))
  else
    bd (gb (0 : Int32)) fun _ =>
    some ((0 : Int32))
def X12_bits_4 (σ : Mem) : Nat → Int32 → Int32 → Int32 → Option Int32
  | 0, _, _, _ => none
  | f + 1, x0, x1, x2 =>
    if (31 : Int32) ≤ x2 then
      some (x1)
    else
      X12_bits_4 σ f x0 (x1 + ((x0 >>> (x2 &&& 31)) &&& (1 : Int32))) (x2 + 1)
def X12_bits (σ : Mem) (x0 : Int32) : Option Int32 :=
  X12_bits_4 σ FU x0 (0 : Int32) (0 : Int32)
def X12_of (σ : Mem) (x1 : Int32) (x2 : Int32) : Option Int32 :=
  bd (ag σ 400 (((11 : Int32) + ((4 : Int32) * x1)) + x2)) fun r12 =>
  some (r12)
def X12_lays (x1 : Int32) (x2 : Int32) (x3 : Int32) (σ : Mem) : Option Mem :=
  bd (au σ 400 (((11 : Int32) + ((4 : Int32) * x1)) + x2) x3) fun σ13 =>
  some σ13
def X12_ofWalker (σ : Mem) (x1 : Int32) (x2 : Int32) : Option Int32 :=
  bd (ag σ 400 (((128 : Int32) + ((4 : Int32) * x1)) + x2)) fun r13 =>
  some (r13)
def X12_liking (σ : Mem) (x1 : Int32) (x2 : Int32) : Option Int32 :=
  bd (ag σ 400 (((152 : Int32) + ((6 : Int32) * x1)) + x2)) fun r14 =>
  some (r14)
def X12_isWay (σ : Mem) (x1 : Int32) (x2 : Int32) : Option Int32 :=
  bd (ag σ 400 (((47 : Int32) + ((9 : Int32) * x1)) + x2)) fun r13 =>
  if r13 = (1 : Int32) then
    bd (gb (1 : Int32)) fun _ =>
    some ((1 : Int32))
  else
    bd (gb (0 : Int32)) fun _ =>
    some ((0 : Int32))
section WALK
variable {p : Program} {l : Launch} {e : Env} {s : State} {m : MethodId} {args : Array Value} {below : List Frame} {meth : Method} {c : Code} {E : GE}
set_option maxRecDepth 20000 in
theorem w_X1_boundsThatFit_84 {r : Int32} {σ : Mem} {rc6 : Nat → Int32 → Int32 → Int32 → Option Int32} {rc19 : Nat → Int32 → Int32 → Int32 → Int32 → Int32 → Option Int32} {a1 : Nat} {x3 : Int32} {x4 : Int32} {x5 : Int32} {x7 : Int32} {y0 : Int32} {y1 : Int32} {ls : Array Slot} {H : Heap} {locs : List Loc} (C : Cx p s m args meth c cX1_boundsThatFit (some .int) 9 RX1) (G : Gf E s) (hr6 : ∀ {a1 : Nat} {x3 : Int32} {x4 : Int32} {x5 : Int32} {ls : Array Slot} {H : Heap} {locs : List Loc}, Hx E σ s H locs → kd a1 = 2 → lv_has ls 9 [(1, .ref (gB E + a1)), (2, .ref (gB E + 1)), (3, .int x3), (4, .int x4), (5, .int x5)] → rc6 a1 x3 x4 x5 = some r → W p l e (RM 4) s m args below meth c H locs 0 0 (QI E below args s r σ) (F0 m 6 ls [])) (hr19 : ∀ {a1 : Nat} {x3 : Int32} {x4 : Int32} {x5 : Int32} {x6 : Int32} {x7 : Int32} {ls : Array Slot} {H : Heap} {locs : List Loc}, Hx E σ s H locs → kd a1 = 2 → lv_has ls 9 [(1, .ref (gB E + a1)), (2, .ref (gB E + 1)), (3, .int x3), (4, .int x4), (5, .int x5), (6, .int x6), (7, .int x7)] → rc19 a1 x3 x4 x5 x6 x7 = some r → W p l e (RM 4) s m args below meth c H locs 0 0 (QI E below args s r σ) (F0 m 19 ls [])) (X : Hx E σ s H locs) (hk_a1 : kd a1 = 2) (hl : lv_has ls 9 [(1, .ref (gB E + a1)), (2, .ref (gB E + 1)), (3, .int x3), (4, .int x4), (5, .int x5), (7, .int x7)]) (h : X1_boundsThatFit_84 σ rc6 rc19 a1 x3 x4 x5 x7 y0 y1 = some r) : W p l e (RM 4) s m args below meth c H locs 0 0 (QI E below args s r σ) (F0 m 84 ls [.int y1, .int y0]) := by
  rw [X1_boundsThatFit_84] at h
  refine lv_iand C.1 C.2.1 dX1_boundsThatFit_84 ?_
  refine lv_istore (lv' := [(6, .int (y0 &&& y1)), (1, .ref (gB E + a1)), (2, .ref (gB E + 1)), (3, .int x3), (4, .int x4), (5, .int x5), (7, .int x7)]) C.1 C.2.1 dX1_boundsThatFit_85 hl (by decide) rfl (fun ls hl => ?_)
  refine lv_iinc (v := (x7 + 3)) (lv' := [(7, .int (x7 + 3)), (6, .int (y0 &&& y1)), (1, .ref (gB E + a1)), (2, .ref (gB E + 1)), (3, .int x3), (4, .int x4), (5, .int x5)]) C.1 C.2.1 dX1_boundsThatFit_87 hl (k := 6) rfl rfl (by decide) rfl (fun ls hl => ?_)
  refine lv_goto (tgt := 19) C.1 C.2.1 dX1_boundsThatFit_90 (by decide) ?_
  exact hr19 X hk_a1 (lv_sub hl [2, 3, 4, 5, 6, 1, 0] rfl) h

set_option maxRecDepth 20000 in
theorem w_X1_boundsThatFit_76 {r : Int32} {σ : Mem} {rc6 : Nat → Int32 → Int32 → Int32 → Option Int32} {rc19 : Nat → Int32 → Int32 → Int32 → Int32 → Int32 → Option Int32} {a1 : Nat} {x3 : Int32} {x4 : Int32} {x5 : Int32} {x7 : Int32} {y0 : Int32} {y1 : Int32} {y2 : Int32} {ls : Array Slot} {H : Heap} {locs : List Loc} (C : Cx p s m args meth c cX1_boundsThatFit (some .int) 9 RX1) (G : Gf E s) (hr6 : ∀ {a1 : Nat} {x3 : Int32} {x4 : Int32} {x5 : Int32} {ls : Array Slot} {H : Heap} {locs : List Loc}, Hx E σ s H locs → kd a1 = 2 → lv_has ls 9 [(1, .ref (gB E + a1)), (2, .ref (gB E + 1)), (3, .int x3), (4, .int x4), (5, .int x5)] → rc6 a1 x3 x4 x5 = some r → W p l e (RM 4) s m args below meth c H locs 0 0 (QI E below args s r σ) (F0 m 6 ls [])) (hr19 : ∀ {a1 : Nat} {x3 : Int32} {x4 : Int32} {x5 : Int32} {x6 : Int32} {x7 : Int32} {ls : Array Slot} {H : Heap} {locs : List Loc}, Hx E σ s H locs → kd a1 = 2 → lv_has ls 9 [(1, .ref (gB E + a1)), (2, .ref (gB E + 1)), (3, .int x3), (4, .int x4), (5, .int x5), (6, .int x6), (7, .int x7)] → rc19 a1 x3 x4 x5 x6 x7 = some r → W p l e (RM 4) s m args below meth c H locs 0 0 (QI E below args s r σ) (F0 m 19 ls [])) (X : Hx E σ s H locs) (hk_a1 : kd a1 = 2) (hl : lv_has ls 9 [(1, .ref (gB E + a1)), (2, .ref (gB E + 1)), (3, .int x3), (4, .int x4), (5, .int x5), (7, .int x7)]) (h : X1_boundsThatFit_76 σ rc6 rc19 a1 x3 x4 x5 x7 y0 y1 y2 = some r) : W p l e (RM 4) s m args below meth c H locs 0 0 (QI E below args s r σ) (F0 m 76 ls [.int y2, .int y1, .int y0]) := by
  rw [X1_boundsThatFit_76] at h
  refine lv_icmp_ne (tgt := 83) C.1 C.2.1 dX1_boundsThatFit_76 (by decide) (fun c76 => ?_) (fun c76 => ?_)
  · replace h := ineg c76 h
    refine lv_iconst (v := 0) C.1 C.2.1 dX1_boundsThatFit_83 (by decide) ?_
    exact w_X1_boundsThatFit_84 C G hr6 hr19 X hk_a1 (lv_sub hl [0, 1, 2, 3, 4, 5] rfl) h
  · replace h := ipos c76 h
    refine lv_iconst (v := 1) C.1 C.2.1 dX1_boundsThatFit_79 (by decide) ?_
    refine lv_goto (tgt := 84) C.1 C.2.1 dX1_boundsThatFit_80 (by decide) ?_
    exact w_X1_boundsThatFit_84 C G hr6 hr19 X hk_a1 (lv_sub hl [0, 1, 2, 3, 4, 5] rfl) h

set_option maxRecDepth 20000 in
theorem w_X1_boundsThatFit_59 {r : Int32} {σ : Mem} {rc6 : Nat → Int32 → Int32 → Int32 → Option Int32} {rc19 : Nat → Int32 → Int32 → Int32 → Int32 → Int32 → Option Int32} {a1 : Nat} {x3 : Int32} {x4 : Int32} {x5 : Int32} {x7 : Int32} {y0 : Int32} {y1 : Int32} {ls : Array Slot} {H : Heap} {locs : List Loc} (C : Cx p s m args meth c cX1_boundsThatFit (some .int) 9 RX1) (G : Gf E s) (hr6 : ∀ {a1 : Nat} {x3 : Int32} {x4 : Int32} {x5 : Int32} {ls : Array Slot} {H : Heap} {locs : List Loc}, Hx E σ s H locs → kd a1 = 2 → lv_has ls 9 [(1, .ref (gB E + a1)), (2, .ref (gB E + 1)), (3, .int x3), (4, .int x4), (5, .int x5)] → rc6 a1 x3 x4 x5 = some r → W p l e (RM 4) s m args below meth c H locs 0 0 (QI E below args s r σ) (F0 m 6 ls [])) (hr19 : ∀ {a1 : Nat} {x3 : Int32} {x4 : Int32} {x5 : Int32} {x6 : Int32} {x7 : Int32} {ls : Array Slot} {H : Heap} {locs : List Loc}, Hx E σ s H locs → kd a1 = 2 → lv_has ls 9 [(1, .ref (gB E + a1)), (2, .ref (gB E + 1)), (3, .int x3), (4, .int x4), (5, .int x5), (6, .int x6), (7, .int x7)] → rc19 a1 x3 x4 x5 x6 x7 = some r → W p l e (RM 4) s m args below meth c H locs 0 0 (QI E below args s r σ) (F0 m 19 ls [])) (X : Hx E σ s H locs) (hk_a1 : kd a1 = 2) (hl : lv_has ls 9 [(1, .ref (gB E + a1)), (2, .ref (gB E + 1)), (3, .int x3), (4, .int x4), (5, .int x5), (7, .int x7)]) (h : X1_boundsThatFit_59 σ rc6 rc19 a1 x3 x4 x5 x7 y0 y1 = some r) : W p l e (RM 4) s m args below meth c H locs 0 0 (QI E below args s r σ) (F0 m 59 ls [.int y1, .int y0]) := by
  rw [X1_boundsThatFit_59] at h
  refine lv_aload_n C.1 C.2.1 dX1_boundsThatFit_59 rfl (lv_at hl 1 rfl) ?_
  refine lv_iload C.1 C.2.1 dX1_boundsThatFit_60 (lv_at hl 5 rfl) ?_
  refine lv_iconst (v := 2) C.1 C.2.1 dX1_boundsThatFit_62 (by decide) ?_
  refine lv_iadd C.1 C.2.1 dX1_boundsThatFit_63 ?_
  obtain ⟨r64, e64, h⟩ := bnd h
  refine afI X (runV C G X q_X10_byteAt k_1411 k_1412 k_1551 (rcX10 G X kd_1) (c_X10_byteAt l E e64) rfl hl.1 rfl (Nat.le_of_ble_eq_true rfl) ⟨Nat.le_of_ble_eq_true rfl, Nat.le_of_ble_eq_true rfl⟩ ⟨Nat.le_of_ble_eq_true rfl, Nat.le_of_ble_eq_true rfl⟩ dX1_boundsThatFit_64) (fun H locs X => ?_)
  refine lv_iconst (v := 1) C.1 C.2.1 dX1_boundsThatFit_67 (by decide) ?_
  refine lv_icmp_ne (tgt := 75) C.1 C.2.1 dX1_boundsThatFit_68 (by decide) (fun c68 => ?_) (fun c68 => ?_)
  · replace h := ineg c68 h
    refine lv_iconst (v := 0) C.1 C.2.1 dX1_boundsThatFit_75 (by decide) ?_
    exact w_X1_boundsThatFit_76 C G hr6 hr19 X hk_a1 (lv_sub hl [0, 1, 2, 3, 4, 5] rfl) h
  · replace h := ipos c68 h
    refine lv_iconst (v := 1) C.1 C.2.1 dX1_boundsThatFit_71 (by decide) ?_
    refine lv_goto (tgt := 76) C.1 C.2.1 dX1_boundsThatFit_72 (by decide) ?_
    exact w_X1_boundsThatFit_76 C G hr6 hr19 X hk_a1 (lv_sub hl [0, 1, 2, 3, 4, 5] rfl) h

set_option maxRecDepth 20000 in
theorem w_X1_boundsThatFit_19 {r : Int32} {σ : Mem} {rc6 : Nat → Int32 → Int32 → Int32 → Option Int32} (C : Cx p s m args meth c cX1_boundsThatFit (some .int) 9 RX1) (G : Gf E s) (hr6 : ∀ {a1 : Nat} {x3 : Int32} {x4 : Int32} {x5 : Int32} {ls : Array Slot} {H : Heap} {locs : List Loc}, Hx E σ s H locs → kd a1 = 2 → lv_has ls 9 [(1, .ref (gB E + a1)), (2, .ref (gB E + 1)), (3, .int x3), (4, .int x4), (5, .int x5)] → rc6 a1 x3 x4 x5 = some r → W p l e (RM 4) s m args below meth c H locs 0 0 (QI E below args s r σ) (F0 m 6 ls [])) : ∀ (f : Nat) {a1 : Nat} {x3 : Int32} {x4 : Int32} {x5 : Int32} {x6 : Int32} {x7 : Int32} {ls : Array Slot} {H : Heap} {locs : List Loc}, Hx E σ s H locs → kd a1 = 2 → lv_has ls 9 [(1, .ref (gB E + a1)), (2, .ref (gB E + 1)), (3, .int x3), (4, .int x4), (5, .int x5), (6, .int x6), (7, .int x7)] → X1_boundsThatFit_19 σ rc6 f a1 x3 x4 x5 x6 x7 = some r → W p l e (RM 4) s m args below meth c H locs 0 0 (QI E below args s r σ) (F0 m 19 ls []) := by
  intro f
  induction f with
  | zero =>
    intro a1 x3 x4 x5 x6 x7 ls H locs X hk_a1 hl h
    rw [X1_boundsThatFit_19] at h
    cases h
  | succ f ih =>
    intro a1 x3 x4 x5 x6 x7 ls H locs X hk_a1 hl h
    rw [X1_boundsThatFit_19] at h
    refine lv_iload C.1 C.2.1 dX1_boundsThatFit_19 (lv_at hl 6 rfl) ?_
    refine lv_iload_n C.1 C.2.1 dX1_boundsThatFit_21 rfl (lv_at hl 2 rfl) ?_
    refine lv_icmp_ge (tgt := 93) C.1 C.2.1 dX1_boundsThatFit_22 (by decide) (fun c22 => ?_) (fun c22 => ?_)
    · replace h := ipos c22 h
      refine lv_iload C.1 C.2.1 dX1_boundsThatFit_93 (lv_at hl 5 rfl) ?_
      refine lv_if_eq (tgt := 108) C.1 C.2.1 dX1_boundsThatFit_95 (by decide) (fun c95 => ?_) (fun c95 => ?_)
      · replace h := ipos c95 h
        refine lv_iinc (v := (x5 + 1)) (lv' := [(5, .int (x5 + 1)), (1, .ref (gB E + a1)), (2, .ref (gB E + 1)), (3, .int x3), (4, .int x4), (6, .int x6), (7, .int x7)]) C.1 C.2.1 dX1_boundsThatFit_108 hl (k := 4) rfl rfl (by decide) rfl (fun ls hl => ?_)
        refine lv_goto (tgt := 6) C.1 C.2.1 dX1_boundsThatFit_111 (by decide) ?_
        exact hr6 X hk_a1 (lv_sub hl [1, 2, 3, 4, 0] rfl) h
      · replace h := ineg c95 h
        refine lv_iload C.1 C.2.1 dX1_boundsThatFit_98 (lv_at hl 3 rfl) ?_
        refine lv_iload C.1 C.2.1 dX1_boundsThatFit_100 (lv_at hl 4 rfl) ?_
        obtain ⟨r102, e102, h⟩ := bnd h
        refine afI X (runN C G X q_X11_bit k_506 nw_11 (c_X11_bit l E e102) rfl hl.1 rfl (Nat.le_of_ble_eq_true rfl) ⟨Nat.le_of_ble_eq_true rfl, Nat.le_of_ble_eq_true rfl⟩ ⟨Nat.le_of_ble_eq_true rfl, Nat.le_of_ble_eq_true rfl⟩ dX1_boundsThatFit_102) (fun H locs X => ?_)
        refine lv_ior C.1 C.2.1 dX1_boundsThatFit_105 ?_
        refine lv_istore (lv' := [(4, .int (x4 ||| r102)), (1, .ref (gB E + a1)), (2, .ref (gB E + 1)), (3, .int x3), (5, .int x5), (6, .int x6), (7, .int x7)]) C.1 C.2.1 dX1_boundsThatFit_106 hl (by decide) rfl (fun ls hl => ?_)
        refine lv_iinc (v := (x5 + 1)) (lv' := [(5, .int (x5 + 1)), (4, .int (x4 ||| r102)), (1, .ref (gB E + a1)), (2, .ref (gB E + 1)), (3, .int x3), (6, .int x6), (7, .int x7)]) C.1 C.2.1 dX1_boundsThatFit_108 hl (k := 4) rfl rfl (by decide) rfl (fun ls hl => ?_)
        refine lv_goto (tgt := 6) C.1 C.2.1 dX1_boundsThatFit_111 (by decide) ?_
        exact hr6 X hk_a1 (lv_sub hl [2, 3, 4, 1, 0] rfl) h
    · replace h := ineg c22 h
      refine lv_aload_n C.1 C.2.1 dX1_boundsThatFit_25 rfl (lv_at hl 0 rfl) ?_
      refine lv_aload_n C.1 C.2.1 dX1_boundsThatFit_26 rfl (lv_at hl 1 rfl) ?_
      refine lv_iload C.1 C.2.1 dX1_boundsThatFit_27 (lv_at hl 6 rfl) ?_
      obtain ⟨r29, e29, h⟩ := bnd h
      refine afI X (runV C G X q_X10_byteAt k_1411 k_1412 k_1551 (rcX10 G X kd_1) (c_X10_byteAt l E e29) rfl hl.1 rfl (Nat.le_of_ble_eq_true rfl) ⟨Nat.le_of_ble_eq_true rfl, Nat.le_of_ble_eq_true rfl⟩ ⟨Nat.le_of_ble_eq_true rfl, Nat.le_of_ble_eq_true rfl⟩ dX1_boundsThatFit_29) (fun H locs X => ?_)
      refine lv_aload_n C.1 C.2.1 dX1_boundsThatFit_32 rfl (lv_at hl 1 rfl) ?_
      refine lv_iload C.1 C.2.1 dX1_boundsThatFit_33 (lv_at hl 6 rfl) ?_
      refine lv_iconst (v := 1) C.1 C.2.1 dX1_boundsThatFit_35 (by decide) ?_
      refine lv_iadd C.1 C.2.1 dX1_boundsThatFit_36 ?_
      obtain ⟨r37, e37, h⟩ := bnd h
      refine afI X (runV C G X q_X10_byteAt k_1411 k_1412 k_1551 (rcX10 G X kd_1) (c_X10_byteAt l E e37) rfl hl.1 rfl (Nat.le_of_ble_eq_true rfl) ⟨Nat.le_of_ble_eq_true rfl, Nat.le_of_ble_eq_true rfl⟩ ⟨Nat.le_of_ble_eq_true rfl, Nat.le_of_ble_eq_true rfl⟩ dX1_boundsThatFit_37) (fun H locs X => ?_)
      obtain ⟨r40, e40, h⟩ := bnd h
      refine afI X (runV C G X q_X7_likesFor k_526 k_527 k_626 (rcX7 G X hk_a1) (c_X7_likesFor l E hk_a1 e40) rfl hl.1 rfl (Nat.le_of_ble_eq_true rfl) ⟨Nat.le_of_ble_eq_true rfl, Nat.le_of_ble_eq_true rfl⟩ ⟨Nat.le_of_ble_eq_true rfl, Nat.le_of_ble_eq_true rfl⟩ dX1_boundsThatFit_40) (fun H locs X => ?_)
      refine lv_istore (lv' := [(8, .int r40), (1, .ref (gB E + a1)), (2, .ref (gB E + 1)), (3, .int x3), (4, .int x4), (5, .int x5), (6, .int x6), (7, .int x7)]) C.1 C.2.1 dX1_boundsThatFit_43 hl (by decide) rfl (fun ls hl => ?_)
      refine lv_iload C.1 C.2.1 dX1_boundsThatFit_45 (lv_at hl 6 rfl) ?_
      refine lv_iload C.1 C.2.1 dX1_boundsThatFit_47 (lv_at hl 0 rfl) ?_
      refine lv_iload C.1 C.2.1 dX1_boundsThatFit_49 (lv_at hl 5 rfl) ?_
      refine lv_icmp_lt (tgt := 58) C.1 C.2.1 dX1_boundsThatFit_51 (by decide) (fun c51 => ?_) (fun c51 => ?_)
      · replace h := ipos c51 h
        refine lv_iconst (v := 0) C.1 C.2.1 dX1_boundsThatFit_58 (by decide) ?_
        exact w_X1_boundsThatFit_59 C G hr6 ih X hk_a1 (lv_sub hl [1, 2, 3, 4, 5, 7] rfl) h
      · replace h := ineg c51 h
        refine lv_iconst (v := 1) C.1 C.2.1 dX1_boundsThatFit_54 (by decide) ?_
        refine lv_goto (tgt := 59) C.1 C.2.1 dX1_boundsThatFit_55 (by decide) ?_
        exact w_X1_boundsThatFit_59 C G hr6 ih X hk_a1 (lv_sub hl [1, 2, 3, 4, 5, 7] rfl) h

set_option maxRecDepth 20000 in
theorem w_X1_boundsThatFit_6 {r : Int32} {σ : Mem} (C : Cx p s m args meth c cX1_boundsThatFit (some .int) 9 RX1) (G : Gf E s) : ∀ (f : Nat) {a1 : Nat} {x3 : Int32} {x4 : Int32} {x5 : Int32} {ls : Array Slot} {H : Heap} {locs : List Loc}, Hx E σ s H locs → kd a1 = 2 → lv_has ls 9 [(1, .ref (gB E + a1)), (2, .ref (gB E + 1)), (3, .int x3), (4, .int x4), (5, .int x5)] → X1_boundsThatFit_6 σ f a1 x3 x4 x5 = some r → W p l e (RM 4) s m args below meth c H locs 0 0 (QI E below args s r σ) (F0 m 6 ls []) := by
  intro f
  induction f with
  | zero =>
    intro a1 x3 x4 x5 ls H locs X hk_a1 hl h
    rw [X1_boundsThatFit_6] at h
    cases h
  | succ f ih =>
    intro a1 x3 x4 x5 ls H locs X hk_a1 hl h
    rw [X1_boundsThatFit_6] at h
    refine lv_iload C.1 C.2.1 dX1_boundsThatFit_6 (lv_at hl 4 rfl) ?_
    refine lv_bipush (v := 9) C.1 C.2.1 dX1_boundsThatFit_8 (by decide) ?_
    refine lv_icmp_gt (tgt := 114) C.1 C.2.1 dX1_boundsThatFit_10 (by decide) (fun c10 => ?_) (fun c10 => ?_)
    · replace h := ipos c10 h
      refine lv_iload C.1 C.2.1 dX1_boundsThatFit_114 (lv_at hl 3 rfl) ?_
      rw [← Option.some.inj h]
      exact rtI C X dX1_boundsThatFit_116
    · replace h := ineg c10 h
      refine lv_iconst (v := 1) C.1 C.2.1 dX1_boundsThatFit_13 (by decide) ?_
      refine lv_istore (lv' := [(6, .int (1 : Int32)), (1, .ref (gB E + a1)), (2, .ref (gB E + 1)), (3, .int x3), (4, .int x4), (5, .int x5)]) C.1 C.2.1 dX1_boundsThatFit_14 hl (by decide) rfl (fun ls hl => ?_)
      refine lv_iconst (v := 0) C.1 C.2.1 dX1_boundsThatFit_16 (by decide) ?_
      refine lv_istore (lv' := [(7, .int (0 : Int32)), (6, .int (1 : Int32)), (1, .ref (gB E + a1)), (2, .ref (gB E + 1)), (3, .int x3), (4, .int x4), (5, .int x5)]) C.1 C.2.1 dX1_boundsThatFit_17 hl (by decide) rfl (fun ls hl => ?_)
      exact w_X1_boundsThatFit_19 C G ih FU X hk_a1 (lv_sub hl [2, 3, 4, 5, 6, 1, 0] rfl) h

set_option maxRecDepth 20000 in
theorem w_X1_boundsThatFit {r : Int32} {σ : Mem} {a1 : Nat} {x3 : Int32} {ls : Array Slot} {H : Heap} {locs : List Loc} (C : Cx p s m args meth c cX1_boundsThatFit (some .int) 9 RX1) (G : Gf E s) (X : Hx E σ s H locs) (hk_a1 : kd a1 = 2) (hl : lv_has ls 9 [(0, .ref (gB E + 396)), (1, .ref (gB E + a1)), (2, .ref (gB E + 1)), (3, .int x3)]) (h : X1_boundsThatFit σ a1 x3 = some r) : W p l e (RM 4) s m args below meth c H locs 0 0 (QI E below args s r σ) (F0 m 0 ls []) := by
  rw [X1_boundsThatFit] at h
  refine lv_iconst (v := 0) C.1 C.2.1 dX1_boundsThatFit_0 (by decide) ?_
  refine lv_istore (lv' := [(4, .int (0 : Int32)), (0, .ref (gB E + 396)), (1, .ref (gB E + a1)), (2, .ref (gB E + 1)), (3, .int x3)]) C.1 C.2.1 dX1_boundsThatFit_1 hl (by decide) rfl (fun ls hl => ?_)
  refine lv_iconst (v := 1) C.1 C.2.1 dX1_boundsThatFit_3 (by decide) ?_
  refine lv_istore (lv' := [(5, .int (1 : Int32)), (4, .int (0 : Int32)), (0, .ref (gB E + 396)), (1, .ref (gB E + a1)), (2, .ref (gB E + 1)), (3, .int x3)]) C.1 C.2.1 dX1_boundsThatFit_4 hl (by decide) rfl (fun ls hl => ?_)
  exact w_X1_boundsThatFit_6 C G FU X hk_a1 (lv_sub hl [3, 4, 5, 1, 0] rfl) h

theorem c_X1_boundsThatFit (l : Launch) (E : GE) {σ : Mem} {a1 : Nat} {x3 : Int32} (hk_a1 : kd a1 = 2) {r : Int32} (h : X1_boundsThatFit σ a1 x3 = some r) : CtI l E yX1_boundsThatFit cX1_boundsThatFit 9 .int 4 [.ref (gB E + 396), .ref (gB E + a1), .ref (gB E + 1), .int x3] σ r σ := by
  refine Met.ofW (cc := cX1_boundsThatFit) (maxL := 9) (ret := (some .int)) (by decide) rfl ?_
  intro p e s m args below meth c s₁ B hml hv
  obtain ⟨rfl, G, X⟩ := start hv
  have C := cxof B hml
  have hl := lv_entry [.ref (gB E + 396), .ref (gB E + a1), .ref (gB E + 1), .int x3] (n := 9) (Nat.le_of_ble_eq_true rfl)
  rw [lg_entry_eq]
  generalize (lg_sl [.ref (gB E + 396), .ref (gB E + a1), .ref (gB E + 1), .int x3] ++ List.replicate (9 - (lg_sl [.ref (gB E + 396), .ref (gB E + a1), .ref (gB E + 1), .int x3]).length) Slot.unset).toArray = ls at hl ⊢
  exact w_X1_boundsThatFit C G X hk_a1 hl h

set_option maxRecDepth 20000 in
theorem w_X11_learnt {r : ((Int32 ⊕ Nat) × Mem)} {σ : Mem} {ls : Array Slot} {H : Heap} {locs : List Loc} (C : Cx p s m args meth c cX11_learnt (some .int) 2 RX11) (G : Gf E s) (T0 : ∀ x ∈ c.exceptionTable.toList, False) (hT : l.stackTraces = false) (X : Hx E σ s H locs) (hl : lv_has ls 2 [(0, .ref (gB E + 0))]) (h : X11_learnt σ = some r) : W p l e (RX 12 1) s m args below meth c H locs 0 0 (QX E below args s 1 r.1 r.2) (F0 m 0 ls []) := by
  rw [X11_learnt] at h
  refine lv_aload_n C.1 C.2.1 dX11_learnt_0 rfl (lv_at hl 0 rfl) ?_
  refine gfX11 C G X (k := 0) kd_0 0 (v := .ref (gB E + 1)) rfl rfl (by decide) k_405 rfl dX11_learnt_1 ?_
  obtain ⟨r4, σ4, e4, h⟩ := bnd2 h
  refine afI (r0 := r4) (σ' := σ4) X (runV C G X q_X10_useUp k_808 k_809 k_1405 (rcX10 G X kd_1) (c_X10_useUp l E e4) rfl hl.1 rfl (Nat.le_of_ble_eq_true rfl) ⟨Nat.le_of_ble_eq_true rfl, Nat.le_of_ble_eq_true rfl⟩ ⟨Nat.le_of_ble_eq_true rfl, Nat.le_of_ble_eq_true rfl⟩ dX11_learnt_4) (fun H locs X => ?_)
  refine lv_istore_n (lv' := [(1, .int r4), (0, .ref (gB E + 0))]) C.1 C.2.1 dX11_learnt_7 rfl hl (by decide) rfl (fun ls hl => ?_)
  refine lv_aload_n C.1 C.2.1 dX11_learnt_8 rfl (lv_at hl 1 rfl) ?_
  refine gfX11 C G X (k := 0) kd_0 11 (v := .ref (gB E + 396)) rfl rfl (by decide) k_416 rfl dX11_learnt_9 ?_
  refine lv_aload_n C.1 C.2.1 dX11_learnt_12 rfl (lv_at hl 1 rfl) ?_
  refine gfX11 C G X (k := 0) kd_0 1 (v := .ref (gB E + 9)) rfl rfl (by decide) k_406 rfl dX11_learnt_13 ?_
  refine lv_aload_n C.1 C.2.1 dX11_learnt_16 rfl (lv_at hl 1 rfl) ?_
  refine gfX11 C G X (k := 0) kd_0 0 (v := .ref (gB E + 1)) rfl rfl (by decide) k_405 rfl dX11_learnt_17 ?_
  refine lv_iload_n C.1 C.2.1 dX11_learnt_20 rfl (lv_at hl 0 rfl) ?_
  obtain ⟨r21, e21, h⟩ := bnd h
  refine afI X (runV C G X q_X1_areRows k_1548 k_1549 k_1547 (rcX1 G X kd_396) (c_X1_areRows l E kd_9 e21) rfl hl.1 rfl (Nat.le_of_ble_eq_true rfl) ⟨Nat.le_of_ble_eq_true rfl, Nat.le_of_ble_eq_true rfl⟩ ⟨Nat.le_of_ble_eq_true rfl, Nat.le_of_ble_eq_true rfl⟩ dX11_learnt_21) (fun H locs X => ?_)
  refine lv_if_ne (tgt := 38) C.1 C.2.1 dX11_learnt_24 (by decide) (fun c24 => ?_) (fun c24 => ?_)
  · replace h := ineg c24 h
    refine lv_aload_n C.1 C.2.1 dX11_learnt_38 rfl (lv_at hl 1 rfl) ?_
    refine gfX11 C G X (k := 0) kd_0 11 (v := .ref (gB E + 396)) rfl rfl (by decide) k_416 rfl dX11_learnt_39 ?_
    refine lv_aload_n C.1 C.2.1 dX11_learnt_42 rfl (lv_at hl 1 rfl) ?_
    refine gfX11 C G X (k := 0) kd_0 1 (v := .ref (gB E + 9)) rfl rfl (by decide) k_406 rfl dX11_learnt_43 ?_
    refine lv_aload_n C.1 C.2.1 dX11_learnt_46 rfl (lv_at hl 1 rfl) ?_
    refine gfX11 C G X (k := 0) kd_0 0 (v := .ref (gB E + 1)) rfl rfl (by decide) k_405 rfl dX11_learnt_47 ?_
    refine lv_iload_n C.1 C.2.1 dX11_learnt_50 rfl (lv_at hl 0 rfl) ?_
    obtain ⟨r51, e51, h⟩ := bnd h
    refine afI X (runV C G X q_X1_boundsThatFit k_1554 k_1555 k_1553 (rcX1 G X kd_396) (c_X1_boundsThatFit l E kd_9 e51) rfl hl.1 rfl (Nat.le_of_ble_eq_true rfl) ⟨Nat.le_of_ble_eq_true rfl, Nat.le_of_ble_eq_true rfl⟩ ⟨Nat.le_of_ble_eq_true rfl, Nat.le_of_ble_eq_true rfl⟩ dX11_learnt_51) (fun H locs X => ?_)
    refine W.widen (k := 1) (n := 6) (Nat.le_of_ble_eq_true rfl) (Nat.le_of_ble_eq_true rfl) ?_
    rw [← Option.some.inj h]
    exact vx_ret (rtxI C X dX11_learnt_54)
  · replace h := ipos c24 h
    rw [← Option.some.inj h]
    exact thSW C G X T0 hT (x := 2) (cls := "java/lang/IllegalArgumentException") (text := "these are not rows of who lit whose lamp") (ik := 91) (is := 340) (ic := 95) rfl k_985 k_126 (by decide +kernel) (by decide +kernel) hl.1 dX11_learnt_27 dX11_learnt_30 dX11_learnt_31 dX11_learnt_34 dX11_learnt_37 (Nat.le_of_ble_eq_true rfl) (Nat.le_of_ble_eq_true rfl) (Nat.le_of_ble_eq_true rfl) (Nat.le_of_ble_eq_true rfl)

theorem c_X11_learnt (l : Launch) (E : GE) (hT : l.stackTraces = false) {σ : Mem} {r : ((Int32 ⊕ Nat) × Mem)} (h : X11_learnt σ = some r) : CtX l E yX11_learnt cX11_learnt 2 .int 12 1 [.ref (gB E + 0)] σ r.1 r.2 := by
  refine vx_ofW (cc := cX11_learnt) (maxL := 2) (ret := (some .int)) (by decide) rfl ?_
  intro p e s m args below meth c s₁ B hml T0 hv
  obtain ⟨rfl, G, X⟩ := start hv
  have C := cxof B hml
  have hl := lv_entry [.ref (gB E + 0)] (n := 2) (Nat.le_of_ble_eq_true rfl)
  rw [lg_entry_eq]
  generalize (lg_sl [.ref (gB E + 0)] ++ List.replicate (2 - (lg_sl [.ref (gB E + 0)]).length) Slot.unset).toArray = ls at hl ⊢
  exact w_X11_learnt C G T0 hT X hl h

set_option maxRecDepth 20000 in
theorem w_X7_giveOneByOne_46 {r : Mem} {σ : Mem} {rc2 : Nat → Int32 → Int32 → Mem → Option Mem} {rc12 : Nat → Int32 → Int32 → Int32 → Int32 → Mem → Option Mem} {a0 : Nat} {x1 : Int32} {x2 : Int32} {x4 : Int32} {ls : Array Slot} {H : Heap} {locs : List Loc} (C : Cx p s m args meth c cX7_giveOneByOne none 5 RX7) (G : Gf E s) (hr2 : ∀ {a0 : Nat} {x1 : Int32} {x2 : Int32} {σ : Mem} {ls : Array Slot} {H : Heap} {locs : List Loc}, Hx E σ s H locs → kd a0 = 2 → lv_has ls 5 [(0, .ref (gB E + a0)), (1, .int x1), (2, .int x2)] → rc2 a0 x1 x2 σ = some r → W p l e (RM 2) s m args below meth c H locs 0 0 (QV E below args s r) (F0 m 2 ls [])) (hr12 : ∀ {a0 : Nat} {x1 : Int32} {x2 : Int32} {x3 : Int32} {x4 : Int32} {σ : Mem} {ls : Array Slot} {H : Heap} {locs : List Loc}, Hx E σ s H locs → kd a0 = 2 → lv_has ls 5 [(0, .ref (gB E + a0)), (1, .int x1), (2, .int x2), (3, .int x3), (4, .int x4)] → rc12 a0 x1 x2 x3 x4 σ = some r → W p l e (RM 2) s m args below meth c H locs 0 0 (QV E below args s r) (F0 m 12 ls [])) (X : Hx E σ s H locs) (hk_a0 : kd a0 = 2) (hl : lv_has ls 5 [(0, .ref (gB E + a0)), (1, .int x1), (2, .int x2), (4, .int x4)]) (h : X7_giveOneByOne_46 rc2 rc12 a0 x1 x2 x4 σ = some r) : W p l e (RM 2) s m args below meth c H locs 0 0 (QV E below args s r) (F0 m 46 ls []) := by
  rw [X7_giveOneByOne_46] at h
  refine lv_iload C.1 C.2.1 dX7_giveOneByOne_46 (lv_at hl 3 rfl) ?_
  refine lv_istore_n (lv' := [(3, .int x4), (0, .ref (gB E + a0)), (1, .int x1), (2, .int x2), (4, .int x4)]) C.1 C.2.1 dX7_giveOneByOne_48 rfl hl (by decide) rfl (fun ls hl => ?_)
  refine lv_iinc (v := (x4 + 1)) (lv' := [(4, .int (x4 + 1)), (3, .int x4), (0, .ref (gB E + a0)), (1, .int x1), (2, .int x2)]) C.1 C.2.1 dX7_giveOneByOne_49 hl (k := 4) rfl rfl (by decide) rfl (fun ls hl => ?_)
  refine lv_goto (tgt := 12) C.1 C.2.1 dX7_giveOneByOne_52 (by decide) ?_
  exact hr12 X hk_a0 (lv_sub hl [2, 3, 4, 1, 0] rfl) h

set_option maxRecDepth 20000 in
theorem w_X7_giveOneByOne_12 {r : Mem} {rc2 : Nat → Int32 → Int32 → Mem → Option Mem} (C : Cx p s m args meth c cX7_giveOneByOne none 5 RX7) (G : Gf E s) (hr2 : ∀ {a0 : Nat} {x1 : Int32} {x2 : Int32} {σ : Mem} {ls : Array Slot} {H : Heap} {locs : List Loc}, Hx E σ s H locs → kd a0 = 2 → lv_has ls 5 [(0, .ref (gB E + a0)), (1, .int x1), (2, .int x2)] → rc2 a0 x1 x2 σ = some r → W p l e (RM 2) s m args below meth c H locs 0 0 (QV E below args s r) (F0 m 2 ls [])) : ∀ (f : Nat) {a0 : Nat} {x1 : Int32} {x2 : Int32} {x3 : Int32} {x4 : Int32} {σ : Mem} {ls : Array Slot} {H : Heap} {locs : List Loc}, Hx E σ s H locs → kd a0 = 2 → lv_has ls 5 [(0, .ref (gB E + a0)), (1, .int x1), (2, .int x2), (3, .int x3), (4, .int x4)] → X7_giveOneByOne_12 rc2 f a0 x1 x2 x3 x4 σ = some r → W p l e (RM 2) s m args below meth c H locs 0 0 (QV E below args s r) (F0 m 12 ls []) := by
  intro f
  induction f with
  | zero =>
    intro a0 x1 x2 x3 x4 σ ls H locs X hk_a0 hl h
    rw [X7_giveOneByOne_12] at h
    cases h
  | succ f ih =>
    intro a0 x1 x2 x3 x4 σ ls H locs X hk_a0 hl h
    rw [X7_giveOneByOne_12] at h
    refine lv_iload C.1 C.2.1 dX7_giveOneByOne_12 (lv_at hl 4 rfl) ?_
    refine lv_aload_n C.1 C.2.1 dX7_giveOneByOne_14 rfl (lv_at hl 0 rfl) ?_
    refine gfX7 C G X (k := a0) hk_a0 0 (v := .int (σ a0 0)) rfl rfl (by decide) k_198 rfl dX7_giveOneByOne_15 ?_
    refine lv_icmp_ge (tgt := 55) C.1 C.2.1 dX7_giveOneByOne_18 (by decide) (fun c18 => ?_) (fun c18 => ?_)
    · replace h := ipos c18 h
      refine lv_iload_n C.1 C.2.1 dX7_giveOneByOne_55 rfl (lv_at hl 3 rfl) ?_
      refine lv_iconst (v := -1) C.1 C.2.1 dX7_giveOneByOne_56 (by decide) ?_
      refine lv_icmp_eq (tgt := 73) C.1 C.2.1 dX7_giveOneByOne_57 (by decide) (fun c57 => ?_) (fun c57 => ?_)
      · replace h := ipos c57 h
        rw [← Option.some.inj h]
        exact rtV C X dX7_giveOneByOne_73
      · replace h := ineg c57 h
        refine lv_aload_n C.1 C.2.1 dX7_giveOneByOne_60 rfl (lv_at hl 0 rfl) ?_
        refine gfX7 C G X (k := a0) hk_a0 9 (v := .ref (gB E + (a0 + 1))) rfl rfl (by decide) k_232 rfl dX7_giveOneByOne_61 ?_
        refine lv_iload_n C.1 C.2.1 dX7_giveOneByOne_64 rfl (lv_at hl 3 rfl) ?_
        obtain ⟨r65, e65, h⟩ := bnd h
        refine afI X (runV C G X q_X6_get k_498 k_499 k_515 (rcX6 G X (kf_2_1 hk_a0)) (c_X6_get l E (kf_2_1 hk_a0) e65) rfl hl.1 rfl (Nat.le_of_ble_eq_true rfl) ⟨Nat.le_of_ble_eq_true rfl, Nat.le_of_ble_eq_true rfl⟩ ⟨Nat.le_of_ble_eq_true rfl, Nat.le_of_ble_eq_true rfl⟩ dX7_giveOneByOne_65) (fun H locs X => ?_)
        refine lv_bipush (v := 99) C.1 C.2.1 dX7_giveOneByOne_68 (by decide) ?_
        refine lv_icmp_lt (tgt := 74) C.1 C.2.1 dX7_giveOneByOne_70 (by decide) (fun c70 => ?_) (fun c70 => ?_)
        · replace h := ipos c70 h
          refine lv_aload_n C.1 C.2.1 dX7_giveOneByOne_74 rfl (lv_at hl 0 rfl) ?_
          refine gfX7 C G X (k := a0) hk_a0 9 (v := .ref (gB E + (a0 + 1))) rfl rfl (by decide) k_232 rfl dX7_giveOneByOne_75 ?_
          refine lv_iload_n C.1 C.2.1 dX7_giveOneByOne_78 rfl (lv_at hl 3 rfl) ?_
          refine lv_iconst (v := 1) C.1 C.2.1 dX7_giveOneByOne_79 (by decide) ?_
          obtain ⟨σ80, e80, h⟩ := bnd h
          refine afV X (runV C G X q_X6_add k_584 k_585 k_583 (rcX6 G X (kf_2_1 hk_a0)) (c_X6_add l E (kf_2_1 hk_a0) e80) rfl hl.1 rfl (Nat.le_of_ble_eq_true rfl) ⟨Nat.le_of_ble_eq_true rfl, Nat.le_of_ble_eq_true rfl⟩ ⟨Nat.le_of_ble_eq_true rfl, Nat.le_of_ble_eq_true rfl⟩ dX7_giveOneByOne_80) (fun H locs X => ?_)
          refine lv_iinc (v := (x2 + 1)) (lv' := [(2, .int (x2 + 1)), (0, .ref (gB E + a0)), (1, .int x1), (3, .int x3), (4, .int x4)]) C.1 C.2.1 dX7_giveOneByOne_83 hl (k := 2) rfl rfl (by decide) rfl (fun ls hl => ?_)
          refine lv_goto (tgt := 2) C.1 C.2.1 dX7_giveOneByOne_86 (by decide) ?_
          exact hr2 X hk_a0 (lv_sub hl [1, 2, 0] rfl) h
        · replace h := ineg c70 h
          rw [← Option.some.inj h]
          exact rtV C X dX7_giveOneByOne_73
    · replace h := ineg c18 h
      refine lv_iload_n C.1 C.2.1 dX7_giveOneByOne_21 rfl (lv_at hl 3 rfl) ?_
      refine lv_iconst (v := -1) C.1 C.2.1 dX7_giveOneByOne_22 (by decide) ?_
      refine lv_icmp_eq (tgt := 46) C.1 C.2.1 dX7_giveOneByOne_23 (by decide) (fun c23 => ?_) (fun c23 => ?_)
      · replace h := ipos c23 h
        exact w_X7_giveOneByOne_46 C G hr2 ih X hk_a0 (lv_sub hl [0, 1, 2, 4] rfl) h
      · replace h := ineg c23 h
        refine lv_aload_n C.1 C.2.1 dX7_giveOneByOne_26 rfl (lv_at hl 0 rfl) ?_
        refine gfX7 C G X (k := a0) hk_a0 9 (v := .ref (gB E + (a0 + 1))) rfl rfl (by decide) k_232 rfl dX7_giveOneByOne_27 ?_
        refine lv_iload C.1 C.2.1 dX7_giveOneByOne_30 (lv_at hl 4 rfl) ?_
        obtain ⟨r32, e32, h⟩ := bnd h
        refine afI X (runV C G X q_X6_get k_498 k_499 k_515 (rcX6 G X (kf_2_1 hk_a0)) (c_X6_get l E (kf_2_1 hk_a0) e32) rfl hl.1 rfl (Nat.le_of_ble_eq_true rfl) ⟨Nat.le_of_ble_eq_true rfl, Nat.le_of_ble_eq_true rfl⟩ ⟨Nat.le_of_ble_eq_true rfl, Nat.le_of_ble_eq_true rfl⟩ dX7_giveOneByOne_32) (fun H locs X => ?_)
        refine lv_aload_n C.1 C.2.1 dX7_giveOneByOne_35 rfl (lv_at hl 0 rfl) ?_
        refine gfX7 C G X (k := a0) hk_a0 9 (v := .ref (gB E + (a0 + 1))) rfl rfl (by decide) k_232 rfl dX7_giveOneByOne_36 ?_
        refine lv_iload_n C.1 C.2.1 dX7_giveOneByOne_39 rfl (lv_at hl 3 rfl) ?_
        obtain ⟨r40, e40, h⟩ := bnd h
        refine afI X (runV C G X q_X6_get k_498 k_499 k_515 (rcX6 G X (kf_2_1 hk_a0)) (c_X6_get l E (kf_2_1 hk_a0) e40) rfl hl.1 rfl (Nat.le_of_ble_eq_true rfl) ⟨Nat.le_of_ble_eq_true rfl, Nat.le_of_ble_eq_true rfl⟩ ⟨Nat.le_of_ble_eq_true rfl, Nat.le_of_ble_eq_true rfl⟩ dX7_giveOneByOne_40) (fun H locs X => ?_)
        refine lv_icmp_ge (tgt := 49) C.1 C.2.1 dX7_giveOneByOne_43 (by decide) (fun c43 => ?_) (fun c43 => ?_)
        · replace h := ipos c43 h
          refine lv_iinc (v := (x4 + 1)) (lv' := [(4, .int (x4 + 1)), (0, .ref (gB E + a0)), (1, .int x1), (2, .int x2), (3, .int x3)]) C.1 C.2.1 dX7_giveOneByOne_49 hl (k := 4) rfl rfl (by decide) rfl (fun ls hl => ?_)
          refine lv_goto (tgt := 12) C.1 C.2.1 dX7_giveOneByOne_52 (by decide) ?_
          exact ih X hk_a0 (lv_sub hl [1, 2, 3, 4, 0] rfl) h
        · replace h := ineg c43 h
          exact w_X7_giveOneByOne_46 C G hr2 ih X hk_a0 (lv_sub hl [0, 1, 2, 4] rfl) h

set_option maxRecDepth 20000 in
theorem w_X7_giveOneByOne_2 {r : Mem} (C : Cx p s m args meth c cX7_giveOneByOne none 5 RX7) (G : Gf E s) : ∀ (f : Nat) {a0 : Nat} {x1 : Int32} {x2 : Int32} {σ : Mem} {ls : Array Slot} {H : Heap} {locs : List Loc}, Hx E σ s H locs → kd a0 = 2 → lv_has ls 5 [(0, .ref (gB E + a0)), (1, .int x1), (2, .int x2)] → X7_giveOneByOne_2 f a0 x1 x2 σ = some r → W p l e (RM 2) s m args below meth c H locs 0 0 (QV E below args s r) (F0 m 2 ls []) := by
  intro f
  induction f with
  | zero =>
    intro a0 x1 x2 σ ls H locs X hk_a0 hl h
    rw [X7_giveOneByOne_2] at h
    cases h
  | succ f ih =>
    intro a0 x1 x2 σ ls H locs X hk_a0 hl h
    rw [X7_giveOneByOne_2] at h
    refine lv_iload_n C.1 C.2.1 dX7_giveOneByOne_2 rfl (lv_at hl 2 rfl) ?_
    refine lv_iload_n C.1 C.2.1 dX7_giveOneByOne_3 rfl (lv_at hl 1 rfl) ?_
    refine lv_icmp_ge (tgt := 89) C.1 C.2.1 dX7_giveOneByOne_4 (by decide) (fun c4 => ?_) (fun c4 => ?_)
    · replace h := ipos c4 h
      rw [← Option.some.inj h]
      exact rtV C X dX7_giveOneByOne_89
    · replace h := ineg c4 h
      refine lv_iconst (v := -1) C.1 C.2.1 dX7_giveOneByOne_7 (by decide) ?_
      refine lv_istore_n (lv' := [(3, .int (-1 : Int32)), (0, .ref (gB E + a0)), (1, .int x1), (2, .int x2)]) C.1 C.2.1 dX7_giveOneByOne_8 rfl hl (by decide) rfl (fun ls hl => ?_)
      refine lv_iconst (v := 0) C.1 C.2.1 dX7_giveOneByOne_9 (by decide) ?_
      refine lv_istore (lv' := [(4, .int (0 : Int32)), (3, .int (-1 : Int32)), (0, .ref (gB E + a0)), (1, .int x1), (2, .int x2)]) C.1 C.2.1 dX7_giveOneByOne_10 hl (by decide) rfl (fun ls hl => ?_)
      exact w_X7_giveOneByOne_12 C G ih FU X hk_a0 (lv_sub hl [2, 3, 4, 1, 0] rfl) h

set_option maxRecDepth 20000 in
theorem w_X7_giveOneByOne {r : Mem} {σ : Mem} {a0 : Nat} {x1 : Int32} {ls : Array Slot} {H : Heap} {locs : List Loc} (C : Cx p s m args meth c cX7_giveOneByOne none 5 RX7) (G : Gf E s) (X : Hx E σ s H locs) (hk_a0 : kd a0 = 2) (hl : lv_has ls 5 [(0, .ref (gB E + a0)), (1, .int x1)]) (h : X7_giveOneByOne a0 x1 σ = some r) : W p l e (RM 2) s m args below meth c H locs 0 0 (QV E below args s r) (F0 m 0 ls []) := by
  rw [X7_giveOneByOne] at h
  refine lv_iconst (v := 0) C.1 C.2.1 dX7_giveOneByOne_0 (by decide) ?_
  refine lv_istore_n (lv' := [(2, .int (0 : Int32)), (0, .ref (gB E + a0)), (1, .int x1)]) C.1 C.2.1 dX7_giveOneByOne_1 rfl hl (by decide) rfl (fun ls hl => ?_)
  exact w_X7_giveOneByOne_2 C G FU X hk_a0 (lv_sub hl [1, 2, 0] rfl) h

theorem c_X7_giveOneByOne (l : Launch) (E : GE) {σ : Mem} {a0 : Nat} {x1 : Int32} (hk_a0 : kd a0 = 2) {r : Mem} (h : X7_giveOneByOne a0 x1 σ = some r) : CtV l E yX7_giveOneByOne cX7_giveOneByOne 5 2 [.ref (gB E + a0), .int x1] σ r := by
  refine Met.ofW (cc := cX7_giveOneByOne) (maxL := 5) (ret := none) (by decide) rfl ?_
  intro p e s m args below meth c s₁ B hml hv
  obtain ⟨rfl, G, X⟩ := start hv
  have C := cxof B hml
  have hl := lv_entry [.ref (gB E + a0), .int x1] (n := 5) (Nat.le_of_ble_eq_true rfl)
  rw [lg_entry_eq]
  generalize (lg_sl [.ref (gB E + a0), .int x1] ++ List.replicate (5 - (lg_sl [.ref (gB E + a0), .int x1]).length) Slot.unset).toArray = ls at hl ⊢
  exact w_X7_giveOneByOne C G X hk_a0 hl h

set_option maxRecDepth 20000 in
theorem w_X11_share {r : ((Int32 ⊕ Nat) × Mem)} {σ : Mem} {x1 : Int32} {x2 : Int32} {ls : Array Slot} {H : Heap} {locs : List Loc} (C : Cx p s m args meth c cX11_share (some .int) 3 RX11) (G : Gf E s) (T0 : ∀ x ∈ c.exceptionTable.toList, False) (hT : l.stackTraces = false) (X : Hx E σ s H locs) (hl : lv_has ls 3 [(0, .ref (gB E + 0)), (1, .int x1), (2, .int x2)]) (h : X11_share x1 x2 σ = some r) : W p l e (RX 13 2) s m args below meth c H locs 0 0 (QX E below args s 2 r.1 r.2) (F0 m 0 ls []) := by
  rw [X11_share] at h
  refine lv_aload_n C.1 C.2.1 dX11_share_0 rfl (lv_at hl 0 rfl) ?_
  refine lv_iload_n C.1 C.2.1 dX11_share_1 rfl (lv_at hl 1 rfl) ?_
  rcases bndx h with ⟨r2, e2, h⟩ | ⟨x2_, e2, h⟩
  · refine axV X (runXV C G X q_X11_needPane k_1164 kp_11 k_1162 (rcX11 G X kd_0) (c_X11_needPane l E hT e2) rfl hl.1 rfl (Nat.le_of_ble_eq_true rfl) ⟨Nat.le_of_ble_eq_true rfl, Nat.le_of_ble_eq_true rfl⟩ ⟨Nat.le_of_ble_eq_true rfl, Nat.le_of_ble_eq_true rfl⟩ dX11_share_2) (fun r9 H locs er X => ?_) (fun x9 H locs q9 ce er X hz hv hcl => nomatch er)
    refine lv_iload_n C.1 C.2.1 dX11_share_5 rfl (lv_at hl 2 rfl) ?_
    refine lv_iconst (v := 0) C.1 C.2.1 dX11_share_6 (by decide) ?_
    refine lv_sipush (v := 999) C.1 C.2.1 dX11_share_7 (by decide) ?_
    rcases bndx h with ⟨r10, e10, h⟩ | ⟨x10_, e10, h⟩
    · refine axV X (runXS C G X q_X11_needNumber k_1303 k_1302 (c_X11_needNumber l E hT e10) rfl hl.1 rfl (Nat.le_of_ble_eq_true rfl) ⟨Nat.le_of_ble_eq_true rfl, Nat.le_of_ble_eq_true rfl⟩ ⟨Nat.le_of_ble_eq_true rfl, Nat.le_of_ble_eq_true rfl⟩ dX11_share_10) (fun r9 H locs er X => ?_) (fun x9 H locs q9 ce er X hz hv hcl => nomatch er)
      refine lv_aload_n C.1 C.2.1 dX11_share_13 rfl (lv_at hl 0 rfl) ?_
      refine gfX11 C G X (k := 0) kd_0 2 (v := .ref (gB E + 30)) rfl rfl (by decide) k_407 rfl dX11_share_14 ?_
      refine lv_aload_n C.1 C.2.1 dX11_share_17 rfl (lv_at hl 0 rfl) ?_
      refine gfX11 C G X (k := 0) kd_0 1 (v := .ref (gB E + 9)) rfl rfl (by decide) k_406 rfl dX11_share_18 ?_
      obtain ⟨σ21, e21, h⟩ := bnd h
      refine afV X (runV C G X q_X7_copyFrom k_471 k_472 k_759 (rcX7 G X kd_30) (c_X7_copyFrom l E kd_30 kd_9 e21) rfl hl.1 rfl (Nat.le_of_ble_eq_true rfl) ⟨Nat.le_of_ble_eq_true rfl, Nat.le_of_ble_eq_true rfl⟩ ⟨Nat.le_of_ble_eq_true rfl, Nat.le_of_ble_eq_true rfl⟩ dX11_share_21) (fun H locs X => ?_)
      refine lv_aload_n C.1 C.2.1 dX11_share_24 rfl (lv_at hl 0 rfl) ?_
      refine gfX11 C G X (k := 0) kd_0 2 (v := .ref (gB E + 30)) rfl rfl (by decide) k_407 rfl dX11_share_25 ?_
      refine lv_iload_n C.1 C.2.1 dX11_share_28 rfl (lv_at hl 2 rfl) ?_
      obtain ⟨σ29, e29, h⟩ := bnd h
      refine afV X (runV C G X q_X7_giveOneByOne k_1565 k_1566 k_1564 (rcX7 G X kd_30) (c_X7_giveOneByOne l E kd_30 e29) rfl hl.1 rfl (Nat.le_of_ble_eq_true rfl) ⟨Nat.le_of_ble_eq_true rfl, Nat.le_of_ble_eq_true rfl⟩ ⟨Nat.le_of_ble_eq_true rfl, Nat.le_of_ble_eq_true rfl⟩ dX11_share_29) (fun H locs X => ?_)
      refine lv_aload_n C.1 C.2.1 dX11_share_32 rfl (lv_at hl 0 rfl) ?_
      refine gfX11 C G X (k := 0) kd_0 2 (v := .ref (gB E + 30)) rfl rfl (by decide) k_407 rfl dX11_share_33 ?_
      refine gfX7 C G X (k := 30) kd_30 9 (v := .ref (gB E + 31)) rfl rfl (by decide) k_234 rfl dX11_share_36 ?_
      refine lv_iload_n C.1 C.2.1 dX11_share_39 rfl (lv_at hl 1 rfl) ?_
      obtain ⟨r40, e40, h⟩ := bnd h
      refine afI X (runV C G X q_X6_get k_498 k_499 k_1182 (rcX6 G X kd_31) (c_X6_get l E kd_31 e40) rfl hl.1 rfl (Nat.le_of_ble_eq_true rfl) ⟨Nat.le_of_ble_eq_true rfl, Nat.le_of_ble_eq_true rfl⟩ ⟨Nat.le_of_ble_eq_true rfl, Nat.le_of_ble_eq_true rfl⟩ dX11_share_40) (fun H locs X => ?_)
      rw [← Option.some.inj h]
      exact vx_ret (rtxI C X dX11_share_43)
    · refine axV X (runXS C G X q_X11_needNumber k_1303 k_1302 (c_X11_needNumber l E hT e10) rfl hl.1 rfl (Nat.le_of_ble_eq_true rfl) ⟨Nat.le_of_ble_eq_true rfl, Nat.le_of_ble_eq_true rfl⟩ ⟨Nat.le_of_ble_eq_true rfl, Nat.le_of_ble_eq_true rfl⟩ dX11_share_10) (fun r9 H locs er X => nomatch er) (fun x9 H locs q9 ce er X hz hv hcl => ?_)
      rw [← Sum.inr.inj er] at hcl
      rw [← Option.some.inj h]
      exact xout C X T0 hz hv hcl (Nat.le_of_ble_eq_true rfl) (Nat.le_of_ble_eq_true rfl)
  · refine axV X (runXV C G X q_X11_needPane k_1164 kp_11 k_1162 (rcX11 G X kd_0) (c_X11_needPane l E hT e2) rfl hl.1 rfl (Nat.le_of_ble_eq_true rfl) ⟨Nat.le_of_ble_eq_true rfl, Nat.le_of_ble_eq_true rfl⟩ ⟨Nat.le_of_ble_eq_true rfl, Nat.le_of_ble_eq_true rfl⟩ dX11_share_2) (fun r9 H locs er X => nomatch er) (fun x9 H locs q9 ce er X hz hv hcl => ?_)
    rw [← Sum.inr.inj er] at hcl
    rw [← Option.some.inj h]
    exact xout C X T0 hz hv hcl (Nat.le_of_ble_eq_true rfl) (Nat.le_of_ble_eq_true rfl)

theorem c_X11_share (l : Launch) (E : GE) (hT : l.stackTraces = false) {σ : Mem} {x1 : Int32} {x2 : Int32} {r : ((Int32 ⊕ Nat) × Mem)} (h : X11_share x1 x2 σ = some r) : CtX l E yX11_share cX11_share 3 .int 13 2 [.ref (gB E + 0), .int x1, .int x2] σ r.1 r.2 := by
  refine vx_ofW (cc := cX11_share) (maxL := 3) (ret := (some .int)) (by decide) rfl ?_
  intro p e s m args below meth c s₁ B hml T0 hv
  obtain ⟨rfl, G, X⟩ := start hv
  have C := cxof B hml
  have hl := lv_entry [.ref (gB E + 0), .int x1, .int x2] (n := 3) (Nat.le_of_ble_eq_true rfl)
  rw [lg_entry_eq]
  generalize (lg_sl [.ref (gB E + 0), .int x1, .int x2] ++ List.replicate (3 - (lg_sl [.ref (gB E + 0), .int x1, .int x2]).length) Slot.unset).toArray = ls at hl ⊢
  exact w_X11_share C G T0 hT X hl h

set_option maxRecDepth 20000 in
theorem w_X1_gain {r : Int32} {σ : Mem} {x1 : Int32} {x2 : Int32} {x3 : Int32} {ls : Array Slot} {H : Heap} {locs : List Loc} (C : Cx p s m args meth c cX1_gain (some .int) 4 RX1) (G : Gf E s) (X : Hx E σ s H locs) (hl : lv_has ls 4 [(0, .ref (gB E + 396)), (1, .int x1), (2, .int x2), (3, .int x3)]) (h : X1_gain σ x1 x2 x3 = some r) : W p l e (RM 1) s m args below meth c H locs 0 0 (QI E below args s r σ) (F0 m 0 ls []) := by
  rw [X1_gain] at h
  refine lv_iload_n C.1 C.2.1 dX1_gain_0 rfl (lv_at hl 1 rfl) ?_
  refine lv_iconst (v := 1) C.1 C.2.1 dX1_gain_1 (by decide) ?_
  refine lv_icmp_ne (tgt := 15) C.1 C.2.1 dX1_gain_2 (by decide) (fun c2 => ?_) (fun c2 => ?_)
  · replace h := ineg c2 h
    refine lv_iload_n C.1 C.2.1 dX1_gain_15 rfl (lv_at hl 2 rfl) ?_
    refine lv_if_ne (tgt := 25) C.1 C.2.1 dX1_gain_16 (by decide) (fun c16 => ?_) (fun c16 => ?_)
    · replace h := ineg c16 h
      refine lv_bipush (v := -2) C.1 C.2.1 dX1_gain_25 (by decide) ?_
      rw [← Option.some.inj h]
      exact rtI C X dX1_gain_27
    · replace h := ipos c16 h
      refine lv_iload_n C.1 C.2.1 dX1_gain_19 rfl (lv_at hl 3 rfl) ?_
      refine lv_iconst (v := 3) C.1 C.2.1 dX1_gain_20 (by decide) ?_
      refine lv_isub C.1 C.2.1 dX1_gain_21 ?_
      refine lv_goto (tgt := 27) C.1 C.2.1 dX1_gain_22 (by decide) ?_
      rw [← Option.some.inj h]
      exact rtI C X dX1_gain_27
  · replace h := ipos c2 h
    refine lv_iload_n C.1 C.2.1 dX1_gain_5 rfl (lv_at hl 2 rfl) ?_
    refine lv_if_ne (tgt := 13) C.1 C.2.1 dX1_gain_6 (by decide) (fun c6 => ?_) (fun c6 => ?_)
    · replace h := ineg c6 h
      refine lv_iconst (v := 0) C.1 C.2.1 dX1_gain_13 (by decide) ?_
      rw [← Option.some.inj h]
      exact rtI C X dX1_gain_14
    · replace h := ipos c6 h
      refine lv_iconst (v := 4) C.1 C.2.1 dX1_gain_9 (by decide) ?_
      refine lv_goto (tgt := 14) C.1 C.2.1 dX1_gain_10 (by decide) ?_
      rw [← Option.some.inj h]
      exact rtI C X dX1_gain_14

theorem c_X1_gain (l : Launch) (E : GE) {σ : Mem} {x1 : Int32} {x2 : Int32} {x3 : Int32} {r : Int32} (h : X1_gain σ x1 x2 x3 = some r) : CtI l E yX1_gain cX1_gain 4 .int 1 [.ref (gB E + 396), .int x1, .int x2, .int x3] σ r σ := by
  refine Met.ofW (cc := cX1_gain) (maxL := 4) (ret := (some .int)) (by decide) rfl ?_
  intro p e s m args below meth c s₁ B hml hv
  obtain ⟨rfl, G, X⟩ := start hv
  have C := cxof B hml
  have hl := lv_entry [.ref (gB E + 396), .int x1, .int x2, .int x3] (n := 4) (Nat.le_of_ble_eq_true rfl)
  rw [lg_entry_eq]
  generalize (lg_sl [.ref (gB E + 396), .int x1, .int x2, .int x3] ++ List.replicate (4 - (lg_sl [.ref (gB E + 396), .int x1, .int x2, .int x3]).length) Slot.unset).toArray = ls at hl ⊢
  exact w_X1_gain C G X hl h

set_option maxRecDepth 20000 in
theorem w_X1_restingChoices_78 {r : Int32} {σ : Mem} {rc5 : Int32 → Int32 → Int32 → Int32 → Option Int32} {rc14 : Int32 → Int32 → Int32 → Int32 → Int32 → Option Int32} {x1 : Int32} {x2 : Int32} {x3 : Int32} {x4 : Int32} {x5 : Int32} {x6 : Int32} {y0 : Int32} {ls : Array Slot} {H : Heap} {locs : List Loc} (C : Cx p s m args meth c cX1_restingChoices (some .int) 8 RX1) (G : Gf E s) (hr5 : ∀ {x1 : Int32} {x2 : Int32} {x3 : Int32} {x4 : Int32} {ls : Array Slot} {H : Heap} {locs : List Loc}, Hx E σ s H locs → lv_has ls 8 [(0, .ref (gB E + 396)), (1, .int x1), (2, .int x2), (3, .int x3), (4, .int x4)] → rc5 x1 x2 x3 x4 = some r → W p l e (RM 2) s m args below meth c H locs 0 0 (QI E below args s r σ) (F0 m 5 ls [])) (hr14 : ∀ {x1 : Int32} {x2 : Int32} {x3 : Int32} {x4 : Int32} {x5 : Int32} {ls : Array Slot} {H : Heap} {locs : List Loc}, Hx E σ s H locs → lv_has ls 8 [(0, .ref (gB E + 396)), (1, .int x1), (2, .int x2), (3, .int x3), (4, .int x4), (5, .int x5)] → rc14 x1 x2 x3 x4 x5 = some r → W p l e (RM 2) s m args below meth c H locs 0 0 (QI E below args s r σ) (F0 m 14 ls [])) (X : Hx E σ s H locs) (hl : lv_has ls 8 [(0, .ref (gB E + 396)), (1, .int x1), (2, .int x2), (3, .int x3), (4, .int x4), (5, .int x5), (6, .int x6)]) (h : X1_restingChoices_78 σ rc5 rc14 x1 x2 x3 x4 x5 x6 y0 = some r) : W p l e (RM 2) s m args below meth c H locs 0 0 (QI E below args s r σ) (F0 m 78 ls [.int y0]) := by
  rw [X1_restingChoices_78] at h
  refine lv_istore (lv' := [(7, .int y0), (0, .ref (gB E + 396)), (1, .int x1), (2, .int x2), (3, .int x3), (4, .int x4), (5, .int x5), (6, .int x6)]) C.1 C.2.1 dX1_restingChoices_78 hl (by decide) rfl (fun ls hl => ?_)
  refine lv_iload C.1 C.2.1 dX1_restingChoices_80 (lv_at hl 7 rfl) ?_
  refine lv_if_eq (tgt := 103) C.1 C.2.1 dX1_restingChoices_82 (by decide) (fun c82 => ?_) (fun c82 => ?_)
  · replace h := ipos c82 h
    refine lv_iinc (v := (x5 + 1)) (lv' := [(5, .int (x5 + 1)), (7, .int y0), (0, .ref (gB E + 396)), (1, .int x1), (2, .int x2), (3, .int x3), (4, .int x4), (6, .int x6)]) C.1 C.2.1 dX1_restingChoices_103 hl (k := 6) rfl rfl (by decide) rfl (fun ls hl => ?_)
    refine lv_goto (tgt := 14) C.1 C.2.1 dX1_restingChoices_106 (by decide) ?_
    exact hr14 X (lv_sub hl [2, 3, 4, 5, 6, 0] rfl) h
  · replace h := ineg c82 h
    refine lv_iload C.1 C.2.1 dX1_restingChoices_85 (lv_at hl 0 rfl) ?_
    refine lv_if_eq (tgt := 103) C.1 C.2.1 dX1_restingChoices_87 (by decide) (fun c87 => ?_) (fun c87 => ?_)
    · replace h := ipos c87 h
      refine lv_iinc (v := (x5 + 1)) (lv' := [(5, .int (x5 + 1)), (7, .int y0), (0, .ref (gB E + 396)), (1, .int x1), (2, .int x2), (3, .int x3), (4, .int x4), (6, .int x6)]) C.1 C.2.1 dX1_restingChoices_103 hl (k := 6) rfl rfl (by decide) rfl (fun ls hl => ?_)
      refine lv_goto (tgt := 14) C.1 C.2.1 dX1_restingChoices_106 (by decide) ?_
      exact hr14 X (lv_sub hl [2, 3, 4, 5, 6, 0] rfl) h
    · replace h := ineg c87 h
      refine lv_iload_n C.1 C.2.1 dX1_restingChoices_90 rfl (lv_at hl 4 rfl) ?_
      refine lv_iconst (v := 2) C.1 C.2.1 dX1_restingChoices_91 (by decide) ?_
      refine lv_iload C.1 C.2.1 dX1_restingChoices_92 (lv_at hl 5 rfl) ?_
      refine lv_imul C.1 C.2.1 dX1_restingChoices_94 ?_
      refine lv_iload C.1 C.2.1 dX1_restingChoices_95 (lv_at hl 6 rfl) ?_
      refine lv_iadd C.1 C.2.1 dX1_restingChoices_97 ?_
      obtain ⟨r98, e98, h⟩ := bnd h
      refine afI X (runN C G X q_X11_bit k_506 nw_11 (c_X11_bit l E e98) rfl hl.1 rfl (Nat.le_of_ble_eq_true rfl) ⟨Nat.le_of_ble_eq_true rfl, Nat.le_of_ble_eq_true rfl⟩ ⟨Nat.le_of_ble_eq_true rfl, Nat.le_of_ble_eq_true rfl⟩ dX1_restingChoices_98) (fun H locs X => ?_)
      refine lv_ior C.1 C.2.1 dX1_restingChoices_101 ?_
      refine lv_istore_n (lv' := [(3, .int (x3 ||| r98)), (7, .int y0), (0, .ref (gB E + 396)), (1, .int x1), (2, .int x2), (4, .int x4), (5, .int x5), (6, .int x6)]) C.1 C.2.1 dX1_restingChoices_102 rfl hl (by decide) rfl (fun ls hl => ?_)
      refine lv_iinc (v := (x5 + 1)) (lv' := [(5, .int (x5 + 1)), (3, .int (x3 ||| r98)), (7, .int y0), (0, .ref (gB E + 396)), (1, .int x1), (2, .int x2), (4, .int x4), (6, .int x6)]) C.1 C.2.1 dX1_restingChoices_103 hl (k := 6) rfl rfl (by decide) rfl (fun ls hl => ?_)
      refine lv_goto (tgt := 14) C.1 C.2.1 dX1_restingChoices_106 (by decide) ?_
      exact hr14 X (lv_sub hl [3, 4, 5, 1, 6, 0] rfl) h

set_option maxRecDepth 20000 in
theorem w_X1_restingChoices_48 {r : Int32} {σ : Mem} {rc5 : Int32 → Int32 → Int32 → Int32 → Option Int32} {rc14 : Int32 → Int32 → Int32 → Int32 → Int32 → Option Int32} {x1 : Int32} {x2 : Int32} {x3 : Int32} {x4 : Int32} {x5 : Int32} {y0 : Int32} {ls : Array Slot} {H : Heap} {locs : List Loc} (C : Cx p s m args meth c cX1_restingChoices (some .int) 8 RX1) (G : Gf E s) (hr5 : ∀ {x1 : Int32} {x2 : Int32} {x3 : Int32} {x4 : Int32} {ls : Array Slot} {H : Heap} {locs : List Loc}, Hx E σ s H locs → lv_has ls 8 [(0, .ref (gB E + 396)), (1, .int x1), (2, .int x2), (3, .int x3), (4, .int x4)] → rc5 x1 x2 x3 x4 = some r → W p l e (RM 2) s m args below meth c H locs 0 0 (QI E below args s r σ) (F0 m 5 ls [])) (hr14 : ∀ {x1 : Int32} {x2 : Int32} {x3 : Int32} {x4 : Int32} {x5 : Int32} {ls : Array Slot} {H : Heap} {locs : List Loc}, Hx E σ s H locs → lv_has ls 8 [(0, .ref (gB E + 396)), (1, .int x1), (2, .int x2), (3, .int x3), (4, .int x4), (5, .int x5)] → rc14 x1 x2 x3 x4 x5 = some r → W p l e (RM 2) s m args below meth c H locs 0 0 (QI E below args s r σ) (F0 m 14 ls [])) (X : Hx E σ s H locs) (hl : lv_has ls 8 [(0, .ref (gB E + 396)), (1, .int x1), (2, .int x2), (3, .int x3), (4, .int x4), (5, .int x5)]) (h : X1_restingChoices_48 σ rc5 rc14 x1 x2 x3 x4 x5 y0 = some r) : W p l e (RM 2) s m args below meth c H locs 0 0 (QI E below args s r σ) (F0 m 48 ls [.int y0]) := by
  rw [X1_restingChoices_48] at h
  refine lv_istore (lv' := [(6, .int y0), (0, .ref (gB E + 396)), (1, .int x1), (2, .int x2), (3, .int x3), (4, .int x4), (5, .int x5)]) C.1 C.2.1 dX1_restingChoices_48 hl (by decide) rfl (fun ls hl => ?_)
  refine lv_aload_n C.1 C.2.1 dX1_restingChoices_50 rfl (lv_at hl 1 rfl) ?_
  refine lv_iload C.1 C.2.1 dX1_restingChoices_51 (lv_at hl 6 rfl) ?_
  refine lv_iload C.1 C.2.1 dX1_restingChoices_53 (lv_at hl 5 rfl) ?_
  refine lv_iload_n C.1 C.2.1 dX1_restingChoices_55 rfl (lv_at hl 3 rfl) ?_
  obtain ⟨r56, e56, h⟩ := bnd h
  refine afI X (runV C G X q_X1_gain k_1581 kp_25 k_1579 (rcX1 G X kd_396) (c_X1_gain l E e56) rfl hl.1 rfl (Nat.le_of_ble_eq_true rfl) ⟨Nat.le_of_ble_eq_true rfl, Nat.le_of_ble_eq_true rfl⟩ ⟨Nat.le_of_ble_eq_true rfl, Nat.le_of_ble_eq_true rfl⟩ dX1_restingChoices_56) (fun H locs X => ?_)
  refine lv_aload_n C.1 C.2.1 dX1_restingChoices_59 rfl (lv_at hl 1 rfl) ?_
  refine lv_iconst (v := 1) C.1 C.2.1 dX1_restingChoices_60 (by decide) ?_
  refine lv_iload C.1 C.2.1 dX1_restingChoices_61 (lv_at hl 6 rfl) ?_
  refine lv_isub C.1 C.2.1 dX1_restingChoices_63 ?_
  refine lv_iload C.1 C.2.1 dX1_restingChoices_64 (lv_at hl 5 rfl) ?_
  refine lv_iload_n C.1 C.2.1 dX1_restingChoices_66 rfl (lv_at hl 3 rfl) ?_
  obtain ⟨r67, e67, h⟩ := bnd h
  refine afI X (runV C G X q_X1_gain k_1581 kp_25 k_1579 (rcX1 G X kd_396) (c_X1_gain l E e67) rfl hl.1 rfl (Nat.le_of_ble_eq_true rfl) ⟨Nat.le_of_ble_eq_true rfl, Nat.le_of_ble_eq_true rfl⟩ ⟨Nat.le_of_ble_eq_true rfl, Nat.le_of_ble_eq_true rfl⟩ dX1_restingChoices_67) (fun H locs X => ?_)
  refine lv_icmp_lt (tgt := 77) C.1 C.2.1 dX1_restingChoices_70 (by decide) (fun c70 => ?_) (fun c70 => ?_)
  · replace h := ipos c70 h
    refine lv_iconst (v := 0) C.1 C.2.1 dX1_restingChoices_77 (by decide) ?_
    exact w_X1_restingChoices_78 C G hr5 hr14 X (lv_sub hl [1, 2, 3, 4, 5, 6, 0] rfl) h
  · replace h := ineg c70 h
    refine lv_iconst (v := 1) C.1 C.2.1 dX1_restingChoices_73 (by decide) ?_
    refine lv_goto (tgt := 78) C.1 C.2.1 dX1_restingChoices_74 (by decide) ?_
    exact w_X1_restingChoices_78 C G hr5 hr14 X (lv_sub hl [1, 2, 3, 4, 5, 6, 0] rfl) h

set_option maxRecDepth 20000 in
theorem w_X1_restingChoices_14 {r : Int32} {σ : Mem} {rc5 : Int32 → Int32 → Int32 → Int32 → Option Int32} (C : Cx p s m args meth c cX1_restingChoices (some .int) 8 RX1) (G : Gf E s) (hr5 : ∀ {x1 : Int32} {x2 : Int32} {x3 : Int32} {x4 : Int32} {ls : Array Slot} {H : Heap} {locs : List Loc}, Hx E σ s H locs → lv_has ls 8 [(0, .ref (gB E + 396)), (1, .int x1), (2, .int x2), (3, .int x3), (4, .int x4)] → rc5 x1 x2 x3 x4 = some r → W p l e (RM 2) s m args below meth c H locs 0 0 (QI E below args s r σ) (F0 m 5 ls [])) : ∀ (f : Nat) {x1 : Int32} {x2 : Int32} {x3 : Int32} {x4 : Int32} {x5 : Int32} {ls : Array Slot} {H : Heap} {locs : List Loc}, Hx E σ s H locs → lv_has ls 8 [(0, .ref (gB E + 396)), (1, .int x1), (2, .int x2), (3, .int x3), (4, .int x4), (5, .int x5)] → X1_restingChoices_14 σ rc5 f x1 x2 x3 x4 x5 = some r → W p l e (RM 2) s m args below meth c H locs 0 0 (QI E below args s r σ) (F0 m 14 ls []) := by
  intro f
  induction f with
  | zero =>
    intro x1 x2 x3 x4 x5 ls H locs X hl h
    rw [X1_restingChoices_14] at h
    cases h
  | succ f ih =>
    intro x1 x2 x3 x4 x5 ls H locs X hl h
    rw [X1_restingChoices_14] at h
    refine lv_iload C.1 C.2.1 dX1_restingChoices_14 (lv_at hl 5 rfl) ?_
    refine lv_iconst (v := 2) C.1 C.2.1 dX1_restingChoices_16 (by decide) ?_
    refine lv_icmp_ge (tgt := 109) C.1 C.2.1 dX1_restingChoices_17 (by decide) (fun c17 => ?_) (fun c17 => ?_)
    · replace h := ipos c17 h
      refine lv_iinc (v := (x4 + 1)) (lv' := [(4, .int (x4 + 1)), (0, .ref (gB E + 396)), (1, .int x1), (2, .int x2), (3, .int x3), (5, .int x5)]) C.1 C.2.1 dX1_restingChoices_109 hl (k := 4) rfl rfl (by decide) rfl (fun ls hl => ?_)
      refine lv_goto (tgt := 5) C.1 C.2.1 dX1_restingChoices_112 (by decide) ?_
      exact hr5 X (lv_sub hl [1, 2, 3, 4, 0] rfl) h
    · replace h := ineg c17 h
      refine lv_aload_n C.1 C.2.1 dX1_restingChoices_20 rfl (lv_at hl 0 rfl) ?_
      refine lv_iload C.1 C.2.1 dX1_restingChoices_21 (lv_at hl 4 rfl) ?_
      refine lv_iload C.1 C.2.1 dX1_restingChoices_23 (lv_at hl 5 rfl) ?_
      refine lv_iload_n C.1 C.2.1 dX1_restingChoices_25 rfl (lv_at hl 1 rfl) ?_
      obtain ⟨r26, e26, h⟩ := bnd h
      refine afI X (runV C G X q_X1_gain k_1581 kp_25 k_1579 (rcX1 G X kd_396) (c_X1_gain l E e26) rfl hl.1 rfl (Nat.le_of_ble_eq_true rfl) ⟨Nat.le_of_ble_eq_true rfl, Nat.le_of_ble_eq_true rfl⟩ ⟨Nat.le_of_ble_eq_true rfl, Nat.le_of_ble_eq_true rfl⟩ dX1_restingChoices_26) (fun H locs X => ?_)
      refine lv_aload_n C.1 C.2.1 dX1_restingChoices_29 rfl (lv_at hl 0 rfl) ?_
      refine lv_iconst (v := 1) C.1 C.2.1 dX1_restingChoices_30 (by decide) ?_
      refine lv_iload C.1 C.2.1 dX1_restingChoices_31 (lv_at hl 4 rfl) ?_
      refine lv_isub C.1 C.2.1 dX1_restingChoices_33 ?_
      refine lv_iload C.1 C.2.1 dX1_restingChoices_34 (lv_at hl 5 rfl) ?_
      refine lv_iload_n C.1 C.2.1 dX1_restingChoices_36 rfl (lv_at hl 1 rfl) ?_
      obtain ⟨r37, e37, h⟩ := bnd h
      refine afI X (runV C G X q_X1_gain k_1581 kp_25 k_1579 (rcX1 G X kd_396) (c_X1_gain l E e37) rfl hl.1 rfl (Nat.le_of_ble_eq_true rfl) ⟨Nat.le_of_ble_eq_true rfl, Nat.le_of_ble_eq_true rfl⟩ ⟨Nat.le_of_ble_eq_true rfl, Nat.le_of_ble_eq_true rfl⟩ dX1_restingChoices_37) (fun H locs X => ?_)
      refine lv_icmp_lt (tgt := 47) C.1 C.2.1 dX1_restingChoices_40 (by decide) (fun c40 => ?_) (fun c40 => ?_)
      · replace h := ipos c40 h
        refine lv_iconst (v := 0) C.1 C.2.1 dX1_restingChoices_47 (by decide) ?_
        exact w_X1_restingChoices_48 C G hr5 ih X (lv_sub hl [0, 1, 2, 3, 4, 5] rfl) h
      · replace h := ineg c40 h
        refine lv_iconst (v := 1) C.1 C.2.1 dX1_restingChoices_43 (by decide) ?_
        refine lv_goto (tgt := 48) C.1 C.2.1 dX1_restingChoices_44 (by decide) ?_
        exact w_X1_restingChoices_48 C G hr5 ih X (lv_sub hl [0, 1, 2, 3, 4, 5] rfl) h

set_option maxRecDepth 20000 in
theorem w_X1_restingChoices_5 {r : Int32} {σ : Mem} (C : Cx p s m args meth c cX1_restingChoices (some .int) 8 RX1) (G : Gf E s) : ∀ (f : Nat) {x1 : Int32} {x2 : Int32} {x3 : Int32} {x4 : Int32} {ls : Array Slot} {H : Heap} {locs : List Loc}, Hx E σ s H locs → lv_has ls 8 [(0, .ref (gB E + 396)), (1, .int x1), (2, .int x2), (3, .int x3), (4, .int x4)] → X1_restingChoices_5 σ f x1 x2 x3 x4 = some r → W p l e (RM 2) s m args below meth c H locs 0 0 (QI E below args s r σ) (F0 m 5 ls []) := by
  intro f
  induction f with
  | zero =>
    intro x1 x2 x3 x4 ls H locs X hl h
    rw [X1_restingChoices_5] at h
    cases h
  | succ f ih =>
    intro x1 x2 x3 x4 ls H locs X hl h
    rw [X1_restingChoices_5] at h
    refine lv_iload C.1 C.2.1 dX1_restingChoices_5 (lv_at hl 4 rfl) ?_
    refine lv_iconst (v := 2) C.1 C.2.1 dX1_restingChoices_7 (by decide) ?_
    refine lv_icmp_ge (tgt := 115) C.1 C.2.1 dX1_restingChoices_8 (by decide) (fun c8 => ?_) (fun c8 => ?_)
    · replace h := ipos c8 h
      refine lv_iload_n C.1 C.2.1 dX1_restingChoices_115 rfl (lv_at hl 3 rfl) ?_
      rw [← Option.some.inj h]
      exact rtI C X dX1_restingChoices_116
    · replace h := ineg c8 h
      refine lv_iconst (v := 0) C.1 C.2.1 dX1_restingChoices_11 (by decide) ?_
      refine lv_istore (lv' := [(5, .int (0 : Int32)), (0, .ref (gB E + 396)), (1, .int x1), (2, .int x2), (3, .int x3), (4, .int x4)]) C.1 C.2.1 dX1_restingChoices_12 hl (by decide) rfl (fun ls hl => ?_)
      exact w_X1_restingChoices_14 C G ih FU X (lv_sub hl [1, 2, 3, 4, 5, 0] rfl) h

set_option maxRecDepth 20000 in
theorem w_X1_restingChoices {r : Int32} {σ : Mem} {x1 : Int32} {x2 : Int32} {ls : Array Slot} {H : Heap} {locs : List Loc} (C : Cx p s m args meth c cX1_restingChoices (some .int) 8 RX1) (G : Gf E s) (X : Hx E σ s H locs) (hl : lv_has ls 8 [(0, .ref (gB E + 396)), (1, .int x1), (2, .int x2)]) (h : X1_restingChoices σ x1 x2 = some r) : W p l e (RM 2) s m args below meth c H locs 0 0 (QI E below args s r σ) (F0 m 0 ls []) := by
  rw [X1_restingChoices] at h
  refine lv_iconst (v := 0) C.1 C.2.1 dX1_restingChoices_0 (by decide) ?_
  refine lv_istore_n (lv' := [(3, .int (0 : Int32)), (0, .ref (gB E + 396)), (1, .int x1), (2, .int x2)]) C.1 C.2.1 dX1_restingChoices_1 rfl hl (by decide) rfl (fun ls hl => ?_)
  refine lv_iconst (v := 0) C.1 C.2.1 dX1_restingChoices_2 (by decide) ?_
  refine lv_istore (lv' := [(4, .int (0 : Int32)), (3, .int (0 : Int32)), (0, .ref (gB E + 396)), (1, .int x1), (2, .int x2)]) C.1 C.2.1 dX1_restingChoices_3 hl (by decide) rfl (fun ls hl => ?_)
  exact w_X1_restingChoices_5 C G FU X (lv_sub hl [2, 3, 4, 1, 0] rfl) h

theorem c_X1_restingChoices (l : Launch) (E : GE) {σ : Mem} {x1 : Int32} {x2 : Int32} {r : Int32} (h : X1_restingChoices σ x1 x2 = some r) : CtI l E yX1_restingChoices cX1_restingChoices 8 .int 2 [.ref (gB E + 396), .int x1, .int x2] σ r σ := by
  refine Met.ofW (cc := cX1_restingChoices) (maxL := 8) (ret := (some .int)) (by decide) rfl ?_
  intro p e s m args below meth c s₁ B hml hv
  obtain ⟨rfl, G, X⟩ := start hv
  have C := cxof B hml
  have hl := lv_entry [.ref (gB E + 396), .int x1, .int x2] (n := 8) (Nat.le_of_ble_eq_true rfl)
  rw [lg_entry_eq]
  generalize (lg_sl [.ref (gB E + 396), .int x1, .int x2] ++ List.replicate (8 - (lg_sl [.ref (gB E + 396), .int x1, .int x2]).length) Slot.unset).toArray = ls at hl ⊢
  exact w_X1_restingChoices C G X hl h

set_option maxRecDepth 20000 in
theorem w_X11_rests {r : (Int32 ⊕ Nat)} {σ : Mem} {x1 : Int32} {x2 : Int32} {ls : Array Slot} {H : Heap} {locs : List Loc} (C : Cx p s m args meth c cX11_rests (some .int) 3 RX11) (G : Gf E s) (T0 : ∀ x ∈ c.exceptionTable.toList, False) (hT : l.stackTraces = false) (X : Hx E σ s H locs) (hl : lv_has ls 3 [(0, .ref (gB E + 0)), (1, .int x1), (2, .int x2)]) (h : X11_rests σ x1 x2 = some r) : W p l e (RX 14 3) s m args below meth c H locs 0 0 (QX E below args s 3 r σ) (F0 m 0 ls []) := by
  rw [X11_rests] at h
  refine lv_aload_n C.1 C.2.1 dX11_rests_0 rfl (lv_at hl 0 rfl) ?_
  refine lv_iload_n C.1 C.2.1 dX11_rests_1 rfl (lv_at hl 1 rfl) ?_
  refine lv_iload_n C.1 C.2.1 dX11_rests_2 rfl (lv_at hl 2 rfl) ?_
  rcases bndx h with ⟨r3, e3, h⟩ | ⟨x3_, e3, h⟩
  · refine axV X (runXV C G X q_X11_needTwoWalkers k_1257 kp_14 k_1255 (rcX11 G X kd_0) (c_X11_needTwoWalkers l E hT e3) rfl hl.1 rfl (Nat.le_of_ble_eq_true rfl) ⟨Nat.le_of_ble_eq_true rfl, Nat.le_of_ble_eq_true rfl⟩ ⟨Nat.le_of_ble_eq_true rfl, Nat.le_of_ble_eq_true rfl⟩ dX11_rests_3) (fun r9 H locs er X => ?_) (fun x9 H locs q9 ce er X hz hv hcl => nomatch er)
    refine lv_aload_n C.1 C.2.1 dX11_rests_6 rfl (lv_at hl 0 rfl) ?_
    refine gfX11 C G X (k := 0) kd_0 11 (v := .ref (gB E + 396)) rfl rfl (by decide) k_416 rfl dX11_rests_7 ?_
    refine lv_aload_n C.1 C.2.1 dX11_rests_10 rfl (lv_at hl 0 rfl) ?_
    refine gfX11 C G X (k := 0) kd_0 1 (v := .ref (gB E + 9)) rfl rfl (by decide) k_406 rfl dX11_rests_11 ?_
    refine lv_iload_n C.1 C.2.1 dX11_rests_14 rfl (lv_at hl 1 rfl) ?_
    refine lv_iload_n C.1 C.2.1 dX11_rests_15 rfl (lv_at hl 2 rfl) ?_
    obtain ⟨r16, e16, h⟩ := bnd h
    refine afI X (runV C G X q_X7_likesOf k_530 k_531 k_1260 (rcX7 G X kd_9) (c_X7_likesOf l E kd_9 e16) rfl hl.1 rfl (Nat.le_of_ble_eq_true rfl) ⟨Nat.le_of_ble_eq_true rfl, Nat.le_of_ble_eq_true rfl⟩ ⟨Nat.le_of_ble_eq_true rfl, Nat.le_of_ble_eq_true rfl⟩ dX11_rests_16) (fun H locs X => ?_)
    refine lv_aload_n C.1 C.2.1 dX11_rests_19 rfl (lv_at hl 0 rfl) ?_
    refine gfX11 C G X (k := 0) kd_0 1 (v := .ref (gB E + 9)) rfl rfl (by decide) k_406 rfl dX11_rests_20 ?_
    refine lv_iload_n C.1 C.2.1 dX11_rests_23 rfl (lv_at hl 2 rfl) ?_
    refine lv_iload_n C.1 C.2.1 dX11_rests_24 rfl (lv_at hl 1 rfl) ?_
    obtain ⟨r25, e25, h⟩ := bnd h
    refine afI X (runV C G X q_X7_likesOf k_530 k_531 k_1260 (rcX7 G X kd_9) (c_X7_likesOf l E kd_9 e25) rfl hl.1 rfl (Nat.le_of_ble_eq_true rfl) ⟨Nat.le_of_ble_eq_true rfl, Nat.le_of_ble_eq_true rfl⟩ ⟨Nat.le_of_ble_eq_true rfl, Nat.le_of_ble_eq_true rfl⟩ dX11_rests_25) (fun H locs X => ?_)
    obtain ⟨r28, e28, h⟩ := bnd h
    refine afI X (runV C G X q_X1_restingChoices k_1576 k_1577 k_1575 (rcX1 G X kd_396) (c_X1_restingChoices l E e28) rfl hl.1 rfl (Nat.le_of_ble_eq_true rfl) ⟨Nat.le_of_ble_eq_true rfl, Nat.le_of_ble_eq_true rfl⟩ ⟨Nat.le_of_ble_eq_true rfl, Nat.le_of_ble_eq_true rfl⟩ dX11_rests_28) (fun H locs X => ?_)
    rw [← Option.some.inj h]
    exact vx_ret (rtxI C X dX11_rests_31)
  · refine axV X (runXV C G X q_X11_needTwoWalkers k_1257 kp_14 k_1255 (rcX11 G X kd_0) (c_X11_needTwoWalkers l E hT e3) rfl hl.1 rfl (Nat.le_of_ble_eq_true rfl) ⟨Nat.le_of_ble_eq_true rfl, Nat.le_of_ble_eq_true rfl⟩ ⟨Nat.le_of_ble_eq_true rfl, Nat.le_of_ble_eq_true rfl⟩ dX11_rests_3) (fun r9 H locs er X => nomatch er) (fun x9 H locs q9 ce er X hz hv hcl => ?_)
    rw [← Sum.inr.inj er] at hcl
    rw [← Option.some.inj h]
    exact xout C X T0 hz hv hcl (Nat.le_of_ble_eq_true rfl) (Nat.le_of_ble_eq_true rfl)

theorem c_X11_rests (l : Launch) (E : GE) (hT : l.stackTraces = false) {σ : Mem} {x1 : Int32} {x2 : Int32} {r : (Int32 ⊕ Nat)} (h : X11_rests σ x1 x2 = some r) : CtX l E yX11_rests cX11_rests 3 .int 14 3 [.ref (gB E + 0), .int x1, .int x2] σ r σ := by
  refine vx_ofW (cc := cX11_rests) (maxL := 3) (ret := (some .int)) (by decide) rfl ?_
  intro p e s m args below meth c s₁ B hml T0 hv
  obtain ⟨rfl, G, X⟩ := start hv
  have C := cxof B hml
  have hl := lv_entry [.ref (gB E + 0), .int x1, .int x2] (n := 3) (Nat.le_of_ble_eq_true rfl)
  rw [lg_entry_eq]
  generalize (lg_sl [.ref (gB E + 0), .int x1, .int x2] ++ List.replicate (3 - (lg_sl [.ref (gB E + 0), .int x1, .int x2]).length) Slot.unset).toArray = ls at hl ⊢
  exact w_X11_rests C G T0 hT X hl h

set_option maxRecDepth 20000 in
theorem w_X0_power_5 {r : Int64} {σ : Mem} (C : Cx p s m args meth c cX0_power (some .long) 5 RX0) (G : Gf E s) : ∀ (f : Nat) {x0 : Int32} {x1 : Int32} {j2 : Int64} {x4 : Int32} {ls : Array Slot} {H : Heap} {locs : List Loc}, Hx E σ s H locs → lv_has ls 5 [(0, .int x0), (1, .int x1), (2, .long j2), (4, .int x4)] → X0_power_5 σ f x0 x1 j2 x4 = some r → W p l e (RM 1) s m args below meth c H locs 0 0 (QL E below args s r σ) (F0 m 5 ls []) := by
  intro f
  induction f with
  | zero =>
    intro x0 x1 j2 x4 ls H locs X hl h
    rw [X0_power_5] at h
    cases h
  | succ f ih =>
    intro x0 x1 j2 x4 ls H locs X hl h
    rw [X0_power_5] at h
    refine lv_iload C.1 C.2.1 dX0_power_5 (lv_at hl 3 rfl) ?_
    refine lv_iload_n C.1 C.2.1 dX0_power_7 rfl (lv_at hl 1 rfl) ?_
    refine lv_icmp_ge (tgt := 22) C.1 C.2.1 dX0_power_8 (by decide) (fun c8 => ?_) (fun c8 => ?_)
    · replace h := ipos c8 h
      refine lv_lload_n C.1 C.2.1 dX0_power_22 rfl (lv_at hl 2 rfl) ?_
      rw [← Option.some.inj h]
      exact rtL C X dX0_power_23
    · replace h := ineg c8 h
      refine lv_lload_n C.1 C.2.1 dX0_power_11 rfl (lv_at hl 2 rfl) ?_
      refine lv_iload_n C.1 C.2.1 dX0_power_12 rfl (lv_at hl 0 rfl) ?_
      refine lv_i2l C.1 C.2.1 dX0_power_13 rfl ?_
      refine lv_lmul C.1 C.2.1 dX0_power_14 ?_
      refine lv_lstore_n (lv' := [(2, .long (j2 * x0.toInt64)), (0, .int x0), (1, .int x1), (4, .int x4)]) C.1 C.2.1 dX0_power_15 rfl hl (by decide) rfl (fun ls hl => ?_)
      refine lv_iinc (v := (x4 + 1)) (lv' := [(4, .int (x4 + 1)), (2, .long (j2 * x0.toInt64)), (0, .int x0), (1, .int x1)]) C.1 C.2.1 dX0_power_16 hl (k := 3) rfl rfl (by decide) rfl (fun ls hl => ?_)
      refine lv_goto (tgt := 5) C.1 C.2.1 dX0_power_19 (by decide) ?_
      exact ih X (lv_sub hl [2, 3, 1, 0] rfl) h

set_option maxRecDepth 20000 in
theorem w_X0_power {r : Int64} {σ : Mem} {x0 : Int32} {x1 : Int32} {ls : Array Slot} {H : Heap} {locs : List Loc} (C : Cx p s m args meth c cX0_power (some .long) 5 RX0) (G : Gf E s) (X : Hx E σ s H locs) (hl : lv_has ls 5 [(0, .int x0), (1, .int x1)]) (h : X0_power σ x0 x1 = some r) : W p l e (RM 1) s m args below meth c H locs 0 0 (QL E below args s r σ) (F0 m 0 ls []) := by
  rw [X0_power] at h
  refine lv_lconst (v := 1) C.1 C.2.1 dX0_power_0 (by decide) ?_
  refine lv_lstore_n (lv' := [(2, .long (1 : Int64)), (0, .int x0), (1, .int x1)]) C.1 C.2.1 dX0_power_1 rfl hl (by decide) rfl (fun ls hl => ?_)
  refine lv_iconst (v := 0) C.1 C.2.1 dX0_power_2 (by decide) ?_
  refine lv_istore (lv' := [(4, .int (0 : Int32)), (2, .long (1 : Int64)), (0, .int x0), (1, .int x1)]) C.1 C.2.1 dX0_power_3 hl (by decide) rfl (fun ls hl => ?_)
  exact w_X0_power_5 C G FU X (lv_sub hl [2, 3, 1, 0] rfl) h

theorem c_X0_power (l : Launch) (E : GE) {σ : Mem} {x0 : Int32} {x1 : Int32} {r : Int64} (h : X0_power σ x0 x1 = some r) : CtL l E yX0_power cX0_power 5 1 [.int x0, .int x1] σ r σ := by
  refine Met.ofW (cc := cX0_power) (maxL := 5) (ret := (some .long)) (by decide) rfl ?_
  intro p e s m args below meth c s₁ B hml hv
  obtain ⟨rfl, G, X⟩ := start hv
  have C := cxof B hml
  have hl := lv_entry [.int x0, .int x1] (n := 5) (Nat.le_of_ble_eq_true rfl)
  rw [lg_entry_eq]
  generalize (lg_sl [.int x0, .int x1] ++ List.replicate (5 - (lg_sl [.int x0, .int x1]).length) Slot.unset).toArray = ls at hl ⊢
  exact w_X0_power C G X hl h

set_option maxRecDepth 20000 in
theorem w_X0_mistOdds_18 {r : Int32} {σ : Mem} {rc6 : Int32 → Int32 → Int64 → Int32 → Option Int32} (C : Cx p s m args meth c cX0_mistOdds (some .int) 10 RX0) (G : Gf E s) (hr6 : ∀ {x1 : Int32} {x2 : Int32} {j4 : Int64} {x6 : Int32} {ls : Array Slot} {H : Heap} {locs : List Loc}, Hx E σ s H locs → lv_has ls 10 [(1, .int x1), (2, .int x2), (4, .long j4), (6, .int x6)] → rc6 x1 x2 j4 x6 = some r → W p l e (RM 2) s m args below meth c H locs 0 0 (QI E below args s r σ) (F0 m 6 ls [])) : ∀ (f : Nat) {x1 : Int32} {x2 : Int32} {j4 : Int64} {x6 : Int32} {j7 : Int64} {x9 : Int32} {ls : Array Slot} {H : Heap} {locs : List Loc}, Hx E σ s H locs → lv_has ls 10 [(1, .int x1), (2, .int x2), (4, .long j4), (6, .int x6), (7, .long j7), (9, .int x9)] → X0_mistOdds_18 σ rc6 f x1 x2 j4 x6 j7 x9 = some r → W p l e (RM 2) s m args below meth c H locs 0 0 (QI E below args s r σ) (F0 m 18 ls []) := by
  intro f
  induction f with
  | zero =>
    intro x1 x2 j4 x6 j7 x9 ls H locs X hl h
    rw [X0_mistOdds_18] at h
    cases h
  | succ f ih =>
    intro x1 x2 j4 x6 j7 x9 ls H locs X hl h
    rw [X0_mistOdds_18] at h
    refine lv_iload C.1 C.2.1 dX0_mistOdds_18 (lv_at hl 5 rfl) ?_
    refine lv_iload C.1 C.2.1 dX0_mistOdds_20 (lv_at hl 3 rfl) ?_
    refine lv_icmp_ge (tgt := 47) C.1 C.2.1 dX0_mistOdds_22 (by decide) (fun c22 => ?_) (fun c22 => ?_)
    · replace h := ipos c22 h
      refine lv_lload C.1 C.2.1 dX0_mistOdds_47 (lv_at hl 2 rfl) ?_
      refine lv_lload C.1 C.2.1 dX0_mistOdds_49 (lv_at hl 4 rfl) ?_
      refine lv_iload_n C.1 C.2.1 dX0_mistOdds_51 rfl (lv_at hl 0 rfl) ?_
      refine lv_iload C.1 C.2.1 dX0_mistOdds_52 (lv_at hl 3 rfl) ?_
      obtain ⟨r54, e54, h⟩ := bnd h
      refine afL X (runS C G X q_X0_power k_1595 k_1594 (c_X0_power l E e54) rfl hl.1 rfl (Nat.le_of_ble_eq_true rfl) ⟨Nat.le_of_ble_eq_true rfl, Nat.le_of_ble_eq_true rfl⟩ ⟨Nat.le_of_ble_eq_true rfl, Nat.le_of_ble_eq_true rfl⟩ dX0_mistOdds_54) (fun H locs X => ?_)
      refine lv_lmul C.1 C.2.1 dX0_mistOdds_57 ?_
      refine lv_bipush (v := 100) C.1 C.2.1 dX0_mistOdds_58 (by decide) ?_
      refine lv_iload_n C.1 C.2.1 dX0_mistOdds_60 rfl (lv_at hl 0 rfl) ?_
      refine lv_isub C.1 C.2.1 dX0_mistOdds_61 ?_
      refine lv_iload_n C.1 C.2.1 dX0_mistOdds_62 rfl (lv_at hl 1 rfl) ?_
      refine lv_iload C.1 C.2.1 dX0_mistOdds_63 (lv_at hl 3 rfl) ?_
      refine lv_isub C.1 C.2.1 dX0_mistOdds_65 ?_
      obtain ⟨r66, e66, h⟩ := bnd h
      refine afL X (runS C G X q_X0_power k_1595 k_1594 (c_X0_power l E e66) rfl hl.1 rfl (Nat.le_of_ble_eq_true rfl) ⟨Nat.le_of_ble_eq_true rfl, Nat.le_of_ble_eq_true rfl⟩ ⟨Nat.le_of_ble_eq_true rfl, Nat.le_of_ble_eq_true rfl⟩ dX0_mistOdds_66) (fun H locs X => ?_)
      refine lv_lmul C.1 C.2.1 dX0_mistOdds_69 ?_
      refine lv_ladd C.1 C.2.1 dX0_mistOdds_70 ?_
      refine lv_lstore (lv' := [(4, .long (j4 + ((j7 * r54) * r66))), (1, .int x1), (2, .int x2), (6, .int x6), (7, .long j7), (9, .int x9)]) C.1 C.2.1 dX0_mistOdds_71 hl (by decide) rfl (fun ls hl => ?_)
      refine lv_iinc (v := (x6 + 1)) (lv' := [(6, .int (x6 + 1)), (4, .long (j4 + ((j7 * r54) * r66))), (1, .int x1), (2, .int x2), (7, .long j7), (9, .int x9)]) C.1 C.2.1 dX0_mistOdds_73 hl (k := 3) rfl rfl (by decide) rfl (fun ls hl => ?_)
      refine lv_goto (tgt := 6) C.1 C.2.1 dX0_mistOdds_76 (by decide) ?_
      exact hr6 X (lv_sub hl [2, 3, 1, 0] rfl) h
    · replace h := ineg c22 h
      refine lv_lload C.1 C.2.1 dX0_mistOdds_25 (lv_at hl 4 rfl) ?_
      refine lv_iload_n C.1 C.2.1 dX0_mistOdds_27 rfl (lv_at hl 1 rfl) ?_
      refine lv_iload C.1 C.2.1 dX0_mistOdds_28 (lv_at hl 5 rfl) ?_
      refine lv_isub C.1 C.2.1 dX0_mistOdds_30 ?_
      refine lv_i2l C.1 C.2.1 dX0_mistOdds_31 rfl ?_
      refine lv_lmul C.1 C.2.1 dX0_mistOdds_32 ?_
      refine lv_iload C.1 C.2.1 dX0_mistOdds_33 (lv_at hl 5 rfl) ?_
      refine lv_iconst (v := 1) C.1 C.2.1 dX0_mistOdds_35 (by decide) ?_
      refine lv_iadd C.1 C.2.1 dX0_mistOdds_36 ?_
      refine lv_i2l C.1 C.2.1 dX0_mistOdds_37 rfl ?_
      obtain ⟨u38, z38, h⟩ := bnd h
      refine lv_ldiv C.1 C.2.1 dX0_mistOdds_38 (gzl_s z38) ?_
      obtain ⟨v39, e39, h⟩ := bnd h
      rw [Option.some.inj e39]
      refine lv_lstore (lv' := [(7, .long v39), (1, .int x1), (2, .int x2), (4, .long j4), (6, .int x6), (9, .int x9)]) C.1 C.2.1 dX0_mistOdds_39 hl (by decide) rfl (fun ls hl => ?_)
      refine lv_iinc (v := (x9 + 1)) (lv' := [(9, .int (x9 + 1)), (7, .long v39), (1, .int x1), (2, .int x2), (4, .long j4), (6, .int x6)]) C.1 C.2.1 dX0_mistOdds_41 hl (k := 5) rfl rfl (by decide) rfl (fun ls hl => ?_)
      refine lv_goto (tgt := 18) C.1 C.2.1 dX0_mistOdds_44 (by decide) ?_
      exact ih X (lv_sub hl [2, 3, 4, 5, 1, 0] rfl) h

set_option maxRecDepth 20000 in
theorem w_X0_mistOdds_6 {r : Int32} {σ : Mem} (C : Cx p s m args meth c cX0_mistOdds (some .int) 10 RX0) (G : Gf E s) : ∀ (f : Nat) {x1 : Int32} {x2 : Int32} {j4 : Int64} {x6 : Int32} {ls : Array Slot} {H : Heap} {locs : List Loc}, Hx E σ s H locs → lv_has ls 10 [(1, .int x1), (2, .int x2), (4, .long j4), (6, .int x6)] → X0_mistOdds_6 σ f x1 x2 j4 x6 = some r → W p l e (RM 2) s m args below meth c H locs 0 0 (QI E below args s r σ) (F0 m 6 ls []) := by
  intro f
  induction f with
  | zero =>
    intro x1 x2 j4 x6 ls H locs X hl h
    rw [X0_mistOdds_6] at h
    cases h
  | succ f ih =>
    intro x1 x2 j4 x6 ls H locs X hl h
    rw [X0_mistOdds_6] at h
    refine lv_iload C.1 C.2.1 dX0_mistOdds_6 (lv_at hl 3 rfl) ?_
    refine lv_iload_n C.1 C.2.1 dX0_mistOdds_8 rfl (lv_at hl 1 rfl) ?_
    refine lv_icmp_gt (tgt := 79) C.1 C.2.1 dX0_mistOdds_9 (by decide) (fun c9 => ?_) (fun c9 => ?_)
    · replace h := ipos c9 h
      refine lv_bipush (v := 100) C.1 C.2.1 dX0_mistOdds_79 (by decide) ?_
      refine lv_iload_n C.1 C.2.1 dX0_mistOdds_81 rfl (lv_at hl 1 rfl) ?_
      obtain ⟨r82, e82, h⟩ := bnd h
      refine afL X (runS C G X q_X0_power k_1595 k_1594 (c_X0_power l E e82) rfl hl.1 rfl (Nat.le_of_ble_eq_true rfl) ⟨Nat.le_of_ble_eq_true rfl, Nat.le_of_ble_eq_true rfl⟩ ⟨Nat.le_of_ble_eq_true rfl, Nat.le_of_ble_eq_true rfl⟩ dX0_mistOdds_82) (fun H locs X => ?_)
      refine lv_lstore (lv' := [(6, .long r82), (1, .int x1), (2, .int x2), (4, .long j4)]) C.1 C.2.1 dX0_mistOdds_85 hl (by decide) rfl (fun ls hl => ?_)
      refine lv_lload C.1 C.2.1 dX0_mistOdds_87 (lv_at hl 0 rfl) ?_
      refine lv_lconst (v := 0) C.1 C.2.1 dX0_mistOdds_89 (by decide) ?_
      refine W.lcmp C.1 C.2.1 dX0_mistOdds_90 ?_
      refine lv_if_gt (tgt := 98) C.1 C.2.1 dX0_mistOdds_91 (by decide) (fun c91 => ?_) (fun c91 => ?_)
      · replace h := ipos c91 h
        refine lv_lload C.1 C.2.1 dX0_mistOdds_98 (lv_at hl 3 rfl) ?_
        refine lv_ldc2 C.1 C.2.1 C.hown (C.ts _ k_1597) dX0_mistOdds_100 ?_
        refine lv_lmul C.1 C.2.1 dX0_mistOdds_103 ?_
        refine lv_lload C.1 C.2.1 dX0_mistOdds_104 (lv_at hl 0 rfl) ?_
        obtain ⟨u106, z106, h⟩ := bnd h
        refine lv_ldiv C.1 C.2.1 dX0_mistOdds_106 (gzl_s z106) ?_
        refine lv_l2i C.1 C.2.1 dX0_mistOdds_107 rfl ?_
        rw [← Option.some.inj h]
        exact rtI C X dX0_mistOdds_108
      · replace h := ineg c91 h
        refine lv_iconst (v := 0) C.1 C.2.1 dX0_mistOdds_94 (by decide) ?_
        refine lv_goto (tgt := 108) C.1 C.2.1 dX0_mistOdds_95 (by decide) ?_
        rw [← Option.some.inj h]
        exact rtI C X dX0_mistOdds_108
    · replace h := ineg c9 h
      refine lv_lconst (v := 1) C.1 C.2.1 dX0_mistOdds_12 (by decide) ?_
      refine lv_lstore (lv' := [(7, .long (1 : Int64)), (1, .int x1), (2, .int x2), (4, .long j4), (6, .int x6)]) C.1 C.2.1 dX0_mistOdds_13 hl (by decide) rfl (fun ls hl => ?_)
      refine lv_iconst (v := 0) C.1 C.2.1 dX0_mistOdds_15 (by decide) ?_
      refine lv_istore (lv' := [(9, .int (0 : Int32)), (7, .long (1 : Int64)), (1, .int x1), (2, .int x2), (4, .long j4), (6, .int x6)]) C.1 C.2.1 dX0_mistOdds_16 hl (by decide) rfl (fun ls hl => ?_)
      exact w_X0_mistOdds_18 C G ih FU X (lv_sub hl [2, 3, 4, 5, 1, 0] rfl) h

set_option maxRecDepth 20000 in
theorem w_X0_mistOdds {r : Int32} {σ : Mem} {x1 : Int32} {x2 : Int32} {x3 : Int32} {ls : Array Slot} {H : Heap} {locs : List Loc} (C : Cx p s m args meth c cX0_mistOdds (some .int) 10 RX0) (G : Gf E s) (X : Hx E σ s H locs) (hl : lv_has ls 10 [(0, .ref (gB E + 365)), (1, .int x1), (2, .int x2), (3, .int x3)]) (h : X0_mistOdds σ x1 x2 x3 = some r) : W p l e (RM 2) s m args below meth c H locs 0 0 (QI E below args s r σ) (F0 m 0 ls []) := by
  rw [X0_mistOdds] at h
  refine lv_lconst (v := 0) C.1 C.2.1 dX0_mistOdds_0 (by decide) ?_
  refine lv_lstore (lv' := [(4, .long (0 : Int64)), (0, .ref (gB E + 365)), (1, .int x1), (2, .int x2), (3, .int x3)]) C.1 C.2.1 dX0_mistOdds_1 hl (by decide) rfl (fun ls hl => ?_)
  refine lv_iload_n C.1 C.2.1 dX0_mistOdds_3 rfl (lv_at hl 4 rfl) ?_
  refine lv_istore (lv' := [(6, .int x3), (4, .long (0 : Int64)), (0, .ref (gB E + 365)), (1, .int x1), (2, .int x2), (3, .int x3)]) C.1 C.2.1 dX0_mistOdds_4 hl (by decide) rfl (fun ls hl => ?_)
  exact w_X0_mistOdds_6 C G FU X (lv_sub hl [3, 4, 1, 0] rfl) h

theorem c_X0_mistOdds (l : Launch) (E : GE) {σ : Mem} {x1 : Int32} {x2 : Int32} {x3 : Int32} {r : Int32} (h : X0_mistOdds σ x1 x2 x3 = some r) : CtI l E yX0_mistOdds cX0_mistOdds 10 .int 2 [.ref (gB E + 365), .int x1, .int x2, .int x3] σ r σ := by
  refine Met.ofW (cc := cX0_mistOdds) (maxL := 10) (ret := (some .int)) (by decide) rfl ?_
  intro p e s m args below meth c s₁ B hml hv
  obtain ⟨rfl, G, X⟩ := start hv
  have C := cxof B hml
  have hl := lv_entry [.ref (gB E + 365), .int x1, .int x2, .int x3] (n := 10) (Nat.le_of_ble_eq_true rfl)
  rw [lg_entry_eq]
  generalize (lg_sl [.ref (gB E + 365), .int x1, .int x2, .int x3] ++ List.replicate (10 - (lg_sl [.ref (gB E + 365), .int x1, .int x2, .int x3]).length) Slot.unset).toArray = ls at hl ⊢
  exact w_X0_mistOdds C G X hl h

set_option maxRecDepth 20000 in
theorem w_X11_odds {r : (Int32 ⊕ Nat)} {σ : Mem} {x1 : Int32} {x2 : Int32} {ls : Array Slot} {H : Heap} {locs : List Loc} (C : Cx p s m args meth c cX11_odds (some .int) 3 RX11) (G : Gf E s) (T0 : ∀ x ∈ c.exceptionTable.toList, False) (hT : l.stackTraces = false) (X : Hx E σ s H locs) (hl : lv_has ls 3 [(0, .ref (gB E + 0)), (1, .int x1), (2, .int x2)]) (h : X11_odds σ x1 x2 = some r) : W p l e (RX 13 2) s m args below meth c H locs 0 0 (QX E below args s 2 r σ) (F0 m 0 ls []) := by
  rw [X11_odds] at h
  refine lv_iload_n C.1 C.2.1 dX11_odds_0 rfl (lv_at hl 1 rfl) ?_
  refine lv_iconst (v := 0) C.1 C.2.1 dX11_odds_1 (by decide) ?_
  refine lv_bipush (v := 6) C.1 C.2.1 dX11_odds_2 (by decide) ?_
  rcases bndx h with ⟨r4, e4, h⟩ | ⟨x4_, e4, h⟩
  · refine axV X (runXS C G X q_X11_needNumber k_1303 k_1302 (c_X11_needNumber l E hT e4) rfl hl.1 rfl (Nat.le_of_ble_eq_true rfl) ⟨Nat.le_of_ble_eq_true rfl, Nat.le_of_ble_eq_true rfl⟩ ⟨Nat.le_of_ble_eq_true rfl, Nat.le_of_ble_eq_true rfl⟩ dX11_odds_4) (fun r9 H locs er X => ?_) (fun x9 H locs q9 ce er X hz hv hcl => nomatch er)
    refine lv_iload_n C.1 C.2.1 dX11_odds_7 rfl (lv_at hl 2 rfl) ?_
    refine lv_iconst (v := 0) C.1 C.2.1 dX11_odds_8 (by decide) ?_
    refine lv_bipush (v := 6) C.1 C.2.1 dX11_odds_9 (by decide) ?_
    rcases bndx h with ⟨r11, e11, h⟩ | ⟨x11_, e11, h⟩
    · refine axV X (runXS C G X q_X11_needNumber k_1303 k_1302 (c_X11_needNumber l E hT e11) rfl hl.1 rfl (Nat.le_of_ble_eq_true rfl) ⟨Nat.le_of_ble_eq_true rfl, Nat.le_of_ble_eq_true rfl⟩ ⟨Nat.le_of_ble_eq_true rfl, Nat.le_of_ble_eq_true rfl⟩ dX11_odds_11) (fun r9 H locs er X => ?_) (fun x9 H locs q9 ce er X hz hv hcl => nomatch er)
      refine lv_aload_n C.1 C.2.1 dX11_odds_14 rfl (lv_at hl 0 rfl) ?_
      refine gfX11 C G X (k := 0) kd_0 9 (v := .ref (gB E + 365)) rfl rfl (by decide) k_414 rfl dX11_odds_15 ?_
      refine lv_aload_n C.1 C.2.1 dX11_odds_18 rfl (lv_at hl 0 rfl) ?_
      refine gfX11 C G X (k := 0) kd_0 1 (v := .ref (gB E + 9)) rfl rfl (by decide) k_406 rfl dX11_odds_19 ?_
      refine gfX7 C G X (k := 9) kd_9 5 (v := .int (σ 9 5)) rfl rfl (by decide) k_221 rfl dX11_odds_22 ?_
      refine lv_iload_n C.1 C.2.1 dX11_odds_25 rfl (lv_at hl 1 rfl) ?_
      refine lv_iload_n C.1 C.2.1 dX11_odds_26 rfl (lv_at hl 2 rfl) ?_
      obtain ⟨r27, e27, h⟩ := bnd h
      refine afI X (runV C G X q_X0_mistOdds k_1591 k_1592 k_1590 (rcX0 G X kd_365) (c_X0_mistOdds l E e27) rfl hl.1 rfl (Nat.le_of_ble_eq_true rfl) ⟨Nat.le_of_ble_eq_true rfl, Nat.le_of_ble_eq_true rfl⟩ ⟨Nat.le_of_ble_eq_true rfl, Nat.le_of_ble_eq_true rfl⟩ dX11_odds_27) (fun H locs X => ?_)
      rw [← Option.some.inj h]
      exact vx_ret (rtxI C X dX11_odds_30)
    · refine axV X (runXS C G X q_X11_needNumber k_1303 k_1302 (c_X11_needNumber l E hT e11) rfl hl.1 rfl (Nat.le_of_ble_eq_true rfl) ⟨Nat.le_of_ble_eq_true rfl, Nat.le_of_ble_eq_true rfl⟩ ⟨Nat.le_of_ble_eq_true rfl, Nat.le_of_ble_eq_true rfl⟩ dX11_odds_11) (fun r9 H locs er X => nomatch er) (fun x9 H locs q9 ce er X hz hv hcl => ?_)
      rw [← Sum.inr.inj er] at hcl
      rw [← Option.some.inj h]
      exact xout C X T0 hz hv hcl (Nat.le_of_ble_eq_true rfl) (Nat.le_of_ble_eq_true rfl)
  · refine axV X (runXS C G X q_X11_needNumber k_1303 k_1302 (c_X11_needNumber l E hT e4) rfl hl.1 rfl (Nat.le_of_ble_eq_true rfl) ⟨Nat.le_of_ble_eq_true rfl, Nat.le_of_ble_eq_true rfl⟩ ⟨Nat.le_of_ble_eq_true rfl, Nat.le_of_ble_eq_true rfl⟩ dX11_odds_4) (fun r9 H locs er X => nomatch er) (fun x9 H locs q9 ce er X hz hv hcl => ?_)
    rw [← Sum.inr.inj er] at hcl
    rw [← Option.some.inj h]
    exact xout C X T0 hz hv hcl (Nat.le_of_ble_eq_true rfl) (Nat.le_of_ble_eq_true rfl)

theorem c_X11_odds (l : Launch) (E : GE) (hT : l.stackTraces = false) {σ : Mem} {x1 : Int32} {x2 : Int32} {r : (Int32 ⊕ Nat)} (h : X11_odds σ x1 x2 = some r) : CtX l E yX11_odds cX11_odds 3 .int 13 2 [.ref (gB E + 0), .int x1, .int x2] σ r σ := by
  refine vx_ofW (cc := cX11_odds) (maxL := 3) (ret := (some .int)) (by decide) rfl ?_
  intro p e s m args below meth c s₁ B hml T0 hv
  obtain ⟨rfl, G, X⟩ := start hv
  have C := cxof B hml
  have hl := lv_entry [.ref (gB E + 0), .int x1, .int x2] (n := 3) (Nat.le_of_ble_eq_true rfl)
  rw [lg_entry_eq]
  generalize (lg_sl [.ref (gB E + 0), .int x1, .int x2] ++ List.replicate (3 - (lg_sl [.ref (gB E + 0), .int x1, .int x2]).length) Slot.unset).toArray = ls at hl ⊢
  exact w_X11_odds C G T0 hT X hl h

set_option maxRecDepth 20000 in
theorem w_X11_bright {r : Int32} {σ : Mem} {ls : Array Slot} {H : Heap} {locs : List Loc} (C : Cx p s m args meth c cX11_bright (some .int) 1 RX11) (G : Gf E s) (X : Hx E σ s H locs) (hl : lv_has ls 1 [(0, .ref (gB E + 0))]) (h : X11_bright σ = some r) : W p l e (RM 1) s m args below meth c H locs 0 0 (QI E below args s r σ) (F0 m 0 ls []) := by
  rw [X11_bright] at h
  refine lv_aload_n C.1 C.2.1 dX11_bright_0 rfl (lv_at hl 0 rfl) ?_
  refine gfX11 C G X (k := 0) kd_0 1 (v := .ref (gB E + 9)) rfl rfl (by decide) k_406 rfl dX11_bright_1 ?_
  refine gfX7 C G X (k := 9) kd_9 8 (v := .int (σ 9 8)) rfl rfl (by decide) k_231 rfl dX11_bright_4 ?_
  rw [← Option.some.inj h]
  exact rtI C X dX11_bright_7

theorem c_X11_bright (l : Launch) (E : GE) {σ : Mem} {r : Int32} (h : X11_bright σ = some r) : CtI l E yX11_bright cX11_bright 1 .int 1 [.ref (gB E + 0)] σ r σ := by
  refine Met.ofW (cc := cX11_bright) (maxL := 1) (ret := (some .int)) (by decide) rfl ?_
  intro p e s m args below meth c s₁ B hml hv
  obtain ⟨rfl, G, X⟩ := start hv
  have C := cxof B hml
  have hl := lv_entry [.ref (gB E + 0)] (n := 1) (Nat.le_of_ble_eq_true rfl)
  rw [lg_entry_eq]
  generalize (lg_sl [.ref (gB E + 0)] ++ List.replicate (1 - (lg_sl [.ref (gB E + 0)]).length) Slot.unset).toArray = ls at hl ⊢
  exact w_X11_bright C G X hl h

set_option maxRecDepth 20000 in
theorem w_X7_darkest_36 {r : Int32} {σ : Mem} {rc4 : Nat → Int32 → Int32 → Option Int32} {a0 : Nat} {x2 : Int32} {ls : Array Slot} {H : Heap} {locs : List Loc} (C : Cx p s m args meth c cX7_darkest (some .int) 3 RX7) (G : Gf E s) (hr4 : ∀ {a0 : Nat} {x1 : Int32} {x2 : Int32} {ls : Array Slot} {H : Heap} {locs : List Loc}, Hx E σ s H locs → kd a0 = 2 → lv_has ls 3 [(0, .ref (gB E + a0)), (1, .int x1), (2, .int x2)] → rc4 a0 x1 x2 = some r → W p l e (RM 2) s m args below meth c H locs 0 0 (QI E below args s r σ) (F0 m 4 ls [])) (X : Hx E σ s H locs) (hk_a0 : kd a0 = 2) (hl : lv_has ls 3 [(0, .ref (gB E + a0)), (2, .int x2)]) (h : X7_darkest_36 σ rc4 a0 x2 = some r) : W p l e (RM 2) s m args below meth c H locs 0 0 (QI E below args s r σ) (F0 m 36 ls []) := by
  rw [X7_darkest_36] at h
  refine lv_iload_n C.1 C.2.1 dX7_darkest_36 rfl (lv_at hl 1 rfl) ?_
  refine lv_istore_n (lv' := [(1, .int x2), (0, .ref (gB E + a0)), (2, .int x2)]) C.1 C.2.1 dX7_darkest_37 rfl hl (by decide) rfl (fun ls hl => ?_)
  refine lv_iinc (v := (x2 + 1)) (lv' := [(2, .int (x2 + 1)), (1, .int x2), (0, .ref (gB E + a0))]) C.1 C.2.1 dX7_darkest_38 hl (k := 2) rfl rfl (by decide) rfl (fun ls hl => ?_)
  refine lv_goto (tgt := 4) C.1 C.2.1 dX7_darkest_41 (by decide) ?_
  exact hr4 X hk_a0 (lv_sub hl [2, 1, 0] rfl) h

set_option maxRecDepth 20000 in
theorem w_X7_darkest_4 {r : Int32} {σ : Mem} (C : Cx p s m args meth c cX7_darkest (some .int) 3 RX7) (G : Gf E s) : ∀ (f : Nat) {a0 : Nat} {x1 : Int32} {x2 : Int32} {ls : Array Slot} {H : Heap} {locs : List Loc}, Hx E σ s H locs → kd a0 = 2 → lv_has ls 3 [(0, .ref (gB E + a0)), (1, .int x1), (2, .int x2)] → X7_darkest_4 σ f a0 x1 x2 = some r → W p l e (RM 2) s m args below meth c H locs 0 0 (QI E below args s r σ) (F0 m 4 ls []) := by
  intro f
  induction f with
  | zero =>
    intro a0 x1 x2 ls H locs X hk_a0 hl h
    rw [X7_darkest_4] at h
    cases h
  | succ f ih =>
    intro a0 x1 x2 ls H locs X hk_a0 hl h
    rw [X7_darkest_4] at h
    refine lv_iload_n C.1 C.2.1 dX7_darkest_4 rfl (lv_at hl 2 rfl) ?_
    refine lv_aload_n C.1 C.2.1 dX7_darkest_5 rfl (lv_at hl 0 rfl) ?_
    refine gfX7 C G X (k := a0) hk_a0 0 (v := .int (σ a0 0)) rfl rfl (by decide) k_198 rfl dX7_darkest_6 ?_
    refine lv_icmp_ge (tgt := 44) C.1 C.2.1 dX7_darkest_9 (by decide) (fun c9 => ?_) (fun c9 => ?_)
    · replace h := ipos c9 h
      refine lv_iload_n C.1 C.2.1 dX7_darkest_44 rfl (lv_at hl 1 rfl) ?_
      rw [← Option.some.inj h]
      exact rtI C X dX7_darkest_45
    · replace h := ineg c9 h
      refine lv_iload_n C.1 C.2.1 dX7_darkest_12 rfl (lv_at hl 1 rfl) ?_
      refine lv_iconst (v := -1) C.1 C.2.1 dX7_darkest_13 (by decide) ?_
      refine lv_icmp_eq (tgt := 36) C.1 C.2.1 dX7_darkest_14 (by decide) (fun c14 => ?_) (fun c14 => ?_)
      · replace h := ipos c14 h
        exact w_X7_darkest_36 C G ih X hk_a0 (lv_sub hl [0, 2] rfl) h
      · replace h := ineg c14 h
        refine lv_aload_n C.1 C.2.1 dX7_darkest_17 rfl (lv_at hl 0 rfl) ?_
        refine gfX7 C G X (k := a0) hk_a0 11 (v := .ref (gB E + (a0 + 5))) rfl rfl (by decide) k_241 rfl dX7_darkest_18 ?_
        refine lv_iload_n C.1 C.2.1 dX7_darkest_21 rfl (lv_at hl 2 rfl) ?_
        obtain ⟨r22, e22, h⟩ := bnd h
        refine afI X (runV C G X q_X6_get k_498 k_499 k_515 (rcX6 G X (kf_2_5 hk_a0)) (c_X6_get l E (kf_2_5 hk_a0) e22) rfl hl.1 rfl (Nat.le_of_ble_eq_true rfl) ⟨Nat.le_of_ble_eq_true rfl, Nat.le_of_ble_eq_true rfl⟩ ⟨Nat.le_of_ble_eq_true rfl, Nat.le_of_ble_eq_true rfl⟩ dX7_darkest_22) (fun H locs X => ?_)
        refine lv_aload_n C.1 C.2.1 dX7_darkest_25 rfl (lv_at hl 0 rfl) ?_
        refine gfX7 C G X (k := a0) hk_a0 11 (v := .ref (gB E + (a0 + 5))) rfl rfl (by decide) k_241 rfl dX7_darkest_26 ?_
        refine lv_iload_n C.1 C.2.1 dX7_darkest_29 rfl (lv_at hl 1 rfl) ?_
        obtain ⟨r30, e30, h⟩ := bnd h
        refine afI X (runV C G X q_X6_get k_498 k_499 k_515 (rcX6 G X (kf_2_5 hk_a0)) (c_X6_get l E (kf_2_5 hk_a0) e30) rfl hl.1 rfl (Nat.le_of_ble_eq_true rfl) ⟨Nat.le_of_ble_eq_true rfl, Nat.le_of_ble_eq_true rfl⟩ ⟨Nat.le_of_ble_eq_true rfl, Nat.le_of_ble_eq_true rfl⟩ dX7_darkest_30) (fun H locs X => ?_)
        refine lv_icmp_le (tgt := 38) C.1 C.2.1 dX7_darkest_33 (by decide) (fun c33 => ?_) (fun c33 => ?_)
        · replace h := ipos c33 h
          refine lv_iinc (v := (x2 + 1)) (lv' := [(2, .int (x2 + 1)), (0, .ref (gB E + a0)), (1, .int x1)]) C.1 C.2.1 dX7_darkest_38 hl (k := 2) rfl rfl (by decide) rfl (fun ls hl => ?_)
          refine lv_goto (tgt := 4) C.1 C.2.1 dX7_darkest_41 (by decide) ?_
          exact ih X hk_a0 (lv_sub hl [1, 2, 0] rfl) h
        · replace h := ineg c33 h
          exact w_X7_darkest_36 C G ih X hk_a0 (lv_sub hl [0, 2] rfl) h

set_option maxRecDepth 20000 in
theorem w_X7_darkest {r : Int32} {σ : Mem} {a0 : Nat} {ls : Array Slot} {H : Heap} {locs : List Loc} (C : Cx p s m args meth c cX7_darkest (some .int) 3 RX7) (G : Gf E s) (X : Hx E σ s H locs) (hk_a0 : kd a0 = 2) (hl : lv_has ls 3 [(0, .ref (gB E + a0))]) (h : X7_darkest σ a0 = some r) : W p l e (RM 2) s m args below meth c H locs 0 0 (QI E below args s r σ) (F0 m 0 ls []) := by
  rw [X7_darkest] at h
  refine lv_iconst (v := -1) C.1 C.2.1 dX7_darkest_0 (by decide) ?_
  refine lv_istore_n (lv' := [(1, .int (-1 : Int32)), (0, .ref (gB E + a0))]) C.1 C.2.1 dX7_darkest_1 rfl hl (by decide) rfl (fun ls hl => ?_)
  refine lv_iconst (v := 0) C.1 C.2.1 dX7_darkest_2 (by decide) ?_
  refine lv_istore_n (lv' := [(2, .int (0 : Int32)), (1, .int (-1 : Int32)), (0, .ref (gB E + a0))]) C.1 C.2.1 dX7_darkest_3 rfl hl (by decide) rfl (fun ls hl => ?_)
  exact w_X7_darkest_4 C G FU X hk_a0 (lv_sub hl [2, 1, 0] rfl) h

theorem c_X7_darkest (l : Launch) (E : GE) {σ : Mem} {a0 : Nat} (hk_a0 : kd a0 = 2) {r : Int32} (h : X7_darkest σ a0 = some r) : CtI l E yX7_darkest cX7_darkest 3 .int 2 [.ref (gB E + a0)] σ r σ := by
  refine Met.ofW (cc := cX7_darkest) (maxL := 3) (ret := (some .int)) (by decide) rfl ?_
  intro p e s m args below meth c s₁ B hml hv
  obtain ⟨rfl, G, X⟩ := start hv
  have C := cxof B hml
  have hl := lv_entry [.ref (gB E + a0)] (n := 3) (Nat.le_of_ble_eq_true rfl)
  rw [lg_entry_eq]
  generalize (lg_sl [.ref (gB E + a0)] ++ List.replicate (3 - (lg_sl [.ref (gB E + a0)]).length) Slot.unset).toArray = ls at hl ⊢
  exact w_X7_darkest C G X hk_a0 hl h

set_option maxRecDepth 20000 in
theorem w_X11_gloom {r : Int32} {σ : Mem} {ls : Array Slot} {H : Heap} {locs : List Loc} (C : Cx p s m args meth c cX11_gloom (some .int) 1 RX11) (G : Gf E s) (X : Hx E σ s H locs) (hl : lv_has ls 1 [(0, .ref (gB E + 0))]) (h : X11_gloom σ = some r) : W p l e (RM 3) s m args below meth c H locs 0 0 (QI E below args s r σ) (F0 m 0 ls []) := by
  rw [X11_gloom] at h
  refine lv_aload_n C.1 C.2.1 dX11_gloom_0 rfl (lv_at hl 0 rfl) ?_
  refine gfX11 C G X (k := 0) kd_0 1 (v := .ref (gB E + 9)) rfl rfl (by decide) k_406 rfl dX11_gloom_1 ?_
  obtain ⟨r4, e4, h⟩ := bnd h
  refine afI X (runV C G X q_X7_darkest k_703 k_704 k_702 (rcX7 G X kd_9) (c_X7_darkest l E kd_9 e4) rfl hl.1 rfl (Nat.le_of_ble_eq_true rfl) ⟨Nat.le_of_ble_eq_true rfl, Nat.le_of_ble_eq_true rfl⟩ ⟨Nat.le_of_ble_eq_true rfl, Nat.le_of_ble_eq_true rfl⟩ dX11_gloom_4) (fun H locs X => ?_)
  rw [← Option.some.inj h]
  exact rtI C X dX11_gloom_7

theorem c_X11_gloom (l : Launch) (E : GE) {σ : Mem} {r : Int32} (h : X11_gloom σ = some r) : CtI l E yX11_gloom cX11_gloom 1 .int 3 [.ref (gB E + 0)] σ r σ := by
  refine Met.ofW (cc := cX11_gloom) (maxL := 1) (ret := (some .int)) (by decide) rfl ?_
  intro p e s m args below meth c s₁ B hml hv
  obtain ⟨rfl, G, X⟩ := start hv
  have C := cxof B hml
  have hl := lv_entry [.ref (gB E + 0)] (n := 1) (Nat.le_of_ble_eq_true rfl)
  rw [lg_entry_eq]
  generalize (lg_sl [.ref (gB E + 0)] ++ List.replicate (1 - (lg_sl [.ref (gB E + 0)]).length) Slot.unset).toArray = ls at hl ⊢
  exact w_X11_gloom C G X hl h

set_option maxRecDepth 20000 in
theorem w_X7_busiest_6 {r : Int32} {σ : Mem} (C : Cx p s m args meth c cX7_busiest (some .int) 4 RX7) (G : Gf E s) : ∀ (f : Nat) {a0 : Nat} {x1 : Int32} {x2 : Int32} {x3 : Int32} {ls : Array Slot} {H : Heap} {locs : List Loc}, Hx E σ s H locs → kd a0 = 2 → lv_has ls 4 [(0, .ref (gB E + a0)), (1, .int x1), (2, .int x2), (3, .int x3)] → X7_busiest_6 σ f a0 x1 x2 x3 = some r → W p l e (RM 2) s m args below meth c H locs 0 0 (QI E below args s r σ) (F0 m 6 ls []) := by
  intro f
  induction f with
  | zero =>
    intro a0 x1 x2 x3 ls H locs X hk_a0 hl h
    rw [X7_busiest_6] at h
    cases h
  | succ f ih =>
    intro a0 x1 x2 x3 ls H locs X hk_a0 hl h
    rw [X7_busiest_6] at h
    refine lv_iload_n C.1 C.2.1 dX7_busiest_6 rfl (lv_at hl 3 rfl) ?_
    refine lv_aload_n C.1 C.2.1 dX7_busiest_7 rfl (lv_at hl 0 rfl) ?_
    refine gfX7 C G X (k := a0) hk_a0 1 (v := .int (σ a0 1)) rfl rfl (by decide) k_205 rfl dX7_busiest_8 ?_
    refine lv_icmp_ge (tgt := 43) C.1 C.2.1 dX7_busiest_11 (by decide) (fun c11 => ?_) (fun c11 => ?_)
    · replace h := ipos c11 h
      refine lv_iload_n C.1 C.2.1 dX7_busiest_43 rfl (lv_at hl 1 rfl) ?_
      rw [← Option.some.inj h]
      exact rtI C X dX7_busiest_44
    · replace h := ineg c11 h
      refine lv_aload_n C.1 C.2.1 dX7_busiest_14 rfl (lv_at hl 0 rfl) ?_
      refine gfX7 C G X (k := a0) hk_a0 16 (v := .ref (gB E + (a0 + 15))) rfl rfl (by decide) k_258 rfl dX7_busiest_15 ?_
      refine lv_iload_n C.1 C.2.1 dX7_busiest_18 rfl (lv_at hl 3 rfl) ?_
      obtain ⟨r19, e19, h⟩ := bnd h
      refine afI X (runV C G X q_X6_get k_498 k_499 k_515 (rcX6 G X (kf_2_15 hk_a0)) (c_X6_get l E (kf_2_15 hk_a0) e19) rfl hl.1 rfl (Nat.le_of_ble_eq_true rfl) ⟨Nat.le_of_ble_eq_true rfl, Nat.le_of_ble_eq_true rfl⟩ ⟨Nat.le_of_ble_eq_true rfl, Nat.le_of_ble_eq_true rfl⟩ dX7_busiest_19) (fun H locs X => ?_)
      refine lv_iload_n C.1 C.2.1 dX7_busiest_22 rfl (lv_at hl 2 rfl) ?_
      refine lv_icmp_le (tgt := 37) C.1 C.2.1 dX7_busiest_23 (by decide) (fun c23 => ?_) (fun c23 => ?_)
      · replace h := ipos c23 h
        refine lv_iinc (v := (x3 + 1)) (lv' := [(3, .int (x3 + 1)), (0, .ref (gB E + a0)), (1, .int x1), (2, .int x2)]) C.1 C.2.1 dX7_busiest_37 hl (k := 3) rfl rfl (by decide) rfl (fun ls hl => ?_)
        refine lv_goto (tgt := 6) C.1 C.2.1 dX7_busiest_40 (by decide) ?_
        exact ih X hk_a0 (lv_sub hl [1, 2, 3, 0] rfl) h
      · replace h := ineg c23 h
        refine lv_aload_n C.1 C.2.1 dX7_busiest_26 rfl (lv_at hl 0 rfl) ?_
        refine gfX7 C G X (k := a0) hk_a0 16 (v := .ref (gB E + (a0 + 15))) rfl rfl (by decide) k_258 rfl dX7_busiest_27 ?_
        refine lv_iload_n C.1 C.2.1 dX7_busiest_30 rfl (lv_at hl 3 rfl) ?_
        obtain ⟨r31, e31, h⟩ := bnd h
        refine afI X (runV C G X q_X6_get k_498 k_499 k_515 (rcX6 G X (kf_2_15 hk_a0)) (c_X6_get l E (kf_2_15 hk_a0) e31) rfl hl.1 rfl (Nat.le_of_ble_eq_true rfl) ⟨Nat.le_of_ble_eq_true rfl, Nat.le_of_ble_eq_true rfl⟩ ⟨Nat.le_of_ble_eq_true rfl, Nat.le_of_ble_eq_true rfl⟩ dX7_busiest_31) (fun H locs X => ?_)
        refine lv_istore_n (lv' := [(2, .int r31), (0, .ref (gB E + a0)), (1, .int x1), (3, .int x3)]) C.1 C.2.1 dX7_busiest_34 rfl hl (by decide) rfl (fun ls hl => ?_)
        refine lv_iload_n C.1 C.2.1 dX7_busiest_35 rfl (lv_at hl 3 rfl) ?_
        refine lv_istore_n (lv' := [(1, .int x3), (2, .int r31), (0, .ref (gB E + a0)), (3, .int x3)]) C.1 C.2.1 dX7_busiest_36 rfl hl (by decide) rfl (fun ls hl => ?_)
        refine lv_iinc (v := (x3 + 1)) (lv' := [(3, .int (x3 + 1)), (1, .int x3), (2, .int r31), (0, .ref (gB E + a0))]) C.1 C.2.1 dX7_busiest_37 hl (k := 3) rfl rfl (by decide) rfl (fun ls hl => ?_)
        refine lv_goto (tgt := 6) C.1 C.2.1 dX7_busiest_40 (by decide) ?_
        exact ih X hk_a0 (lv_sub hl [3, 1, 2, 0] rfl) h

set_option maxRecDepth 20000 in
theorem w_X7_busiest {r : Int32} {σ : Mem} {a0 : Nat} {ls : Array Slot} {H : Heap} {locs : List Loc} (C : Cx p s m args meth c cX7_busiest (some .int) 4 RX7) (G : Gf E s) (X : Hx E σ s H locs) (hk_a0 : kd a0 = 2) (hl : lv_has ls 4 [(0, .ref (gB E + a0))]) (h : X7_busiest σ a0 = some r) : W p l e (RM 2) s m args below meth c H locs 0 0 (QI E below args s r σ) (F0 m 0 ls []) := by
  rw [X7_busiest] at h
  refine lv_iconst (v := -1) C.1 C.2.1 dX7_busiest_0 (by decide) ?_
  refine lv_istore_n (lv' := [(1, .int (-1 : Int32)), (0, .ref (gB E + a0))]) C.1 C.2.1 dX7_busiest_1 rfl hl (by decide) rfl (fun ls hl => ?_)
  refine lv_iconst (v := 0) C.1 C.2.1 dX7_busiest_2 (by decide) ?_
  refine lv_istore_n (lv' := [(2, .int (0 : Int32)), (1, .int (-1 : Int32)), (0, .ref (gB E + a0))]) C.1 C.2.1 dX7_busiest_3 rfl hl (by decide) rfl (fun ls hl => ?_)
  refine lv_iconst (v := 0) C.1 C.2.1 dX7_busiest_4 (by decide) ?_
  refine lv_istore_n (lv' := [(3, .int (0 : Int32)), (2, .int (0 : Int32)), (1, .int (-1 : Int32)), (0, .ref (gB E + a0))]) C.1 C.2.1 dX7_busiest_5 rfl hl (by decide) rfl (fun ls hl => ?_)
  exact w_X7_busiest_6 C G FU X hk_a0 (lv_sub hl [3, 2, 1, 0] rfl) h

theorem c_X7_busiest (l : Launch) (E : GE) {σ : Mem} {a0 : Nat} (hk_a0 : kd a0 = 2) {r : Int32} (h : X7_busiest σ a0 = some r) : CtI l E yX7_busiest cX7_busiest 4 .int 2 [.ref (gB E + a0)] σ r σ := by
  refine Met.ofW (cc := cX7_busiest) (maxL := 4) (ret := (some .int)) (by decide) rfl ?_
  intro p e s m args below meth c s₁ B hml hv
  obtain ⟨rfl, G, X⟩ := start hv
  have C := cxof B hml
  have hl := lv_entry [.ref (gB E + a0)] (n := 4) (Nat.le_of_ble_eq_true rfl)
  rw [lg_entry_eq]
  generalize (lg_sl [.ref (gB E + a0)] ++ List.replicate (4 - (lg_sl [.ref (gB E + a0)]).length) Slot.unset).toArray = ls at hl ⊢
  exact w_X7_busiest C G X hk_a0 hl h

set_option maxRecDepth 20000 in
theorem w_X11_lamplighter {r : Int32} {σ : Mem} {ls : Array Slot} {H : Heap} {locs : List Loc} (C : Cx p s m args meth c cX11_lamplighter (some .int) 1 RX11) (G : Gf E s) (X : Hx E σ s H locs) (hl : lv_has ls 1 [(0, .ref (gB E + 0))]) (h : X11_lamplighter σ = some r) : W p l e (RM 3) s m args below meth c H locs 0 0 (QI E below args s r σ) (F0 m 0 ls []) := by
  rw [X11_lamplighter] at h
  refine lv_aload_n C.1 C.2.1 dX11_lamplighter_0 rfl (lv_at hl 0 rfl) ?_
  refine gfX11 C G X (k := 0) kd_0 1 (v := .ref (gB E + 9)) rfl rfl (by decide) k_406 rfl dX11_lamplighter_1 ?_
  obtain ⟨r4, e4, h⟩ := bnd h
  refine afI X (runV C G X q_X7_busiest k_711 k_712 k_710 (rcX7 G X kd_9) (c_X7_busiest l E kd_9 e4) rfl hl.1 rfl (Nat.le_of_ble_eq_true rfl) ⟨Nat.le_of_ble_eq_true rfl, Nat.le_of_ble_eq_true rfl⟩ ⟨Nat.le_of_ble_eq_true rfl, Nat.le_of_ble_eq_true rfl⟩ dX11_lamplighter_4) (fun H locs X => ?_)
  rw [← Option.some.inj h]
  exact rtI C X dX11_lamplighter_7

theorem c_X11_lamplighter (l : Launch) (E : GE) {σ : Mem} {r : Int32} (h : X11_lamplighter σ = some r) : CtI l E yX11_lamplighter cX11_lamplighter 1 .int 3 [.ref (gB E + 0)] σ r σ := by
  refine Met.ofW (cc := cX11_lamplighter) (maxL := 1) (ret := (some .int)) (by decide) rfl ?_
  intro p e s m args below meth c s₁ B hml hv
  obtain ⟨rfl, G, X⟩ := start hv
  have C := cxof B hml
  have hl := lv_entry [.ref (gB E + 0)] (n := 1) (Nat.le_of_ble_eq_true rfl)
  rw [lg_entry_eq]
  generalize (lg_sl [.ref (gB E + 0)] ++ List.replicate (1 - (lg_sl [.ref (gB E + 0)]).length) Slot.unset).toArray = ls at hl ⊢
  exact w_X11_lamplighter C G X hl h

set_option maxRecDepth 20000 in
theorem w_X7_withoutTaper_4 {r : Int32} {σ : Mem} (C : Cx p s m args meth c cX7_withoutTaper (some .int) 3 RX7) (G : Gf E s) : ∀ (f : Nat) {a0 : Nat} {x1 : Int32} {x2 : Int32} {ls : Array Slot} {H : Heap} {locs : List Loc}, Hx E σ s H locs → kd a0 = 2 → lv_has ls 3 [(0, .ref (gB E + a0)), (1, .int x1), (2, .int x2)] → X7_withoutTaper_4 σ f a0 x1 x2 = some r → W p l e (RM 2) s m args below meth c H locs 0 0 (QI E below args s r σ) (F0 m 4 ls []) := by
  intro f
  induction f with
  | zero =>
    intro a0 x1 x2 ls H locs X hk_a0 hl h
    rw [X7_withoutTaper_4] at h
    cases h
  | succ f ih =>
    intro a0 x1 x2 ls H locs X hk_a0 hl h
    rw [X7_withoutTaper_4] at h
    refine lv_iload_n C.1 C.2.1 dX7_withoutTaper_4 rfl (lv_at hl 2 rfl) ?_
    refine lv_aload_n C.1 C.2.1 dX7_withoutTaper_5 rfl (lv_at hl 0 rfl) ?_
    refine gfX7 C G X (k := a0) hk_a0 1 (v := .int (σ a0 1)) rfl rfl (by decide) k_205 rfl dX7_withoutTaper_6 ?_
    refine lv_icmp_ge (tgt := 36) C.1 C.2.1 dX7_withoutTaper_9 (by decide) (fun c9 => ?_) (fun c9 => ?_)
    · replace h := ipos c9 h
      refine lv_iload_n C.1 C.2.1 dX7_withoutTaper_36 rfl (lv_at hl 1 rfl) ?_
      rw [← Option.some.inj h]
      exact rtI C X dX7_withoutTaper_37
    · replace h := ineg c9 h
      refine lv_aload_n C.1 C.2.1 dX7_withoutTaper_12 rfl (lv_at hl 0 rfl) ?_
      refine gfX7 C G X (k := a0) hk_a0 14 (v := .ref (gB E + (a0 + 11))) rfl rfl (by decide) k_251 rfl dX7_withoutTaper_13 ?_
      refine lv_iload_n C.1 C.2.1 dX7_withoutTaper_16 rfl (lv_at hl 2 rfl) ?_
      obtain ⟨r17, e17, h⟩ := bnd h
      refine afI X (runV C G X q_X6_get k_498 k_499 k_515 (rcX6 G X (kf_2_11 hk_a0)) (c_X6_get l E (kf_2_11 hk_a0) e17) rfl hl.1 rfl (Nat.le_of_ble_eq_true rfl) ⟨Nat.le_of_ble_eq_true rfl, Nat.le_of_ble_eq_true rfl⟩ ⟨Nat.le_of_ble_eq_true rfl, Nat.le_of_ble_eq_true rfl⟩ dX7_withoutTaper_17) (fun H locs X => ?_)
      refine lv_if_ne (tgt := 30) C.1 C.2.1 dX7_withoutTaper_20 (by decide) (fun c20 => ?_) (fun c20 => ?_)
      · replace h := ineg c20 h
        refine lv_iinc (v := (x2 + 1)) (lv' := [(2, .int (x2 + 1)), (0, .ref (gB E + a0)), (1, .int x1)]) C.1 C.2.1 dX7_withoutTaper_30 hl (k := 2) rfl rfl (by decide) rfl (fun ls hl => ?_)
        refine lv_goto (tgt := 4) C.1 C.2.1 dX7_withoutTaper_33 (by decide) ?_
        exact ih X hk_a0 (lv_sub hl [1, 2, 0] rfl) h
      · replace h := ipos c20 h
        refine lv_iload_n C.1 C.2.1 dX7_withoutTaper_23 rfl (lv_at hl 1 rfl) ?_
        refine lv_iload_n C.1 C.2.1 dX7_withoutTaper_24 rfl (lv_at hl 2 rfl) ?_
        obtain ⟨r25, e25, h⟩ := bnd h
        refine afI X (runN C G X q_X11_bit k_506 nw_8 (c_X11_bit l E e25) rfl hl.1 rfl (Nat.le_of_ble_eq_true rfl) ⟨Nat.le_of_ble_eq_true rfl, Nat.le_of_ble_eq_true rfl⟩ ⟨Nat.le_of_ble_eq_true rfl, Nat.le_of_ble_eq_true rfl⟩ dX7_withoutTaper_25) (fun H locs X => ?_)
        refine lv_ior C.1 C.2.1 dX7_withoutTaper_28 ?_
        refine lv_istore_n (lv' := [(1, .int (x1 ||| r25)), (0, .ref (gB E + a0)), (2, .int x2)]) C.1 C.2.1 dX7_withoutTaper_29 rfl hl (by decide) rfl (fun ls hl => ?_)
        refine lv_iinc (v := (x2 + 1)) (lv' := [(2, .int (x2 + 1)), (1, .int (x1 ||| r25)), (0, .ref (gB E + a0))]) C.1 C.2.1 dX7_withoutTaper_30 hl (k := 2) rfl rfl (by decide) rfl (fun ls hl => ?_)
        refine lv_goto (tgt := 4) C.1 C.2.1 dX7_withoutTaper_33 (by decide) ?_
        exact ih X hk_a0 (lv_sub hl [2, 1, 0] rfl) h

set_option maxRecDepth 20000 in
theorem w_X7_withoutTaper {r : Int32} {σ : Mem} {a0 : Nat} {ls : Array Slot} {H : Heap} {locs : List Loc} (C : Cx p s m args meth c cX7_withoutTaper (some .int) 3 RX7) (G : Gf E s) (X : Hx E σ s H locs) (hk_a0 : kd a0 = 2) (hl : lv_has ls 3 [(0, .ref (gB E + a0))]) (h : X7_withoutTaper σ a0 = some r) : W p l e (RM 2) s m args below meth c H locs 0 0 (QI E below args s r σ) (F0 m 0 ls []) := by
  rw [X7_withoutTaper] at h
  refine lv_iconst (v := 0) C.1 C.2.1 dX7_withoutTaper_0 (by decide) ?_
  refine lv_istore_n (lv' := [(1, .int (0 : Int32)), (0, .ref (gB E + a0))]) C.1 C.2.1 dX7_withoutTaper_1 rfl hl (by decide) rfl (fun ls hl => ?_)
  refine lv_iconst (v := 0) C.1 C.2.1 dX7_withoutTaper_2 (by decide) ?_
  refine lv_istore_n (lv' := [(2, .int (0 : Int32)), (1, .int (0 : Int32)), (0, .ref (gB E + a0))]) C.1 C.2.1 dX7_withoutTaper_3 rfl hl (by decide) rfl (fun ls hl => ?_)
  exact w_X7_withoutTaper_4 C G FU X hk_a0 (lv_sub hl [2, 1, 0] rfl) h

theorem c_X7_withoutTaper (l : Launch) (E : GE) {σ : Mem} {a0 : Nat} (hk_a0 : kd a0 = 2) {r : Int32} (h : X7_withoutTaper σ a0 = some r) : CtI l E yX7_withoutTaper cX7_withoutTaper 3 .int 2 [.ref (gB E + a0)] σ r σ := by
  refine Met.ofW (cc := cX7_withoutTaper) (maxL := 3) (ret := (some .int)) (by decide) rfl ?_
  intro p e s m args below meth c s₁ B hml hv
  obtain ⟨rfl, G, X⟩ := start hv
  have C := cxof B hml
  have hl := lv_entry [.ref (gB E + a0)] (n := 3) (Nat.le_of_ble_eq_true rfl)
  rw [lg_entry_eq]
  generalize (lg_sl [.ref (gB E + a0)] ++ List.replicate (3 - (lg_sl [.ref (gB E + a0)]).length) Slot.unset).toArray = ls at hl ⊢
  exact w_X7_withoutTaper C G X hk_a0 hl h

set_option maxRecDepth 20000 in
theorem w_X11_spent {r : Int32} {σ : Mem} {ls : Array Slot} {H : Heap} {locs : List Loc} (C : Cx p s m args meth c cX11_spent (some .int) 1 RX11) (G : Gf E s) (X : Hx E σ s H locs) (hl : lv_has ls 1 [(0, .ref (gB E + 0))]) (h : X11_spent σ = some r) : W p l e (RM 3) s m args below meth c H locs 0 0 (QI E below args s r σ) (F0 m 0 ls []) := by
  rw [X11_spent] at h
  refine lv_aload_n C.1 C.2.1 dX11_spent_0 rfl (lv_at hl 0 rfl) ?_
  refine gfX11 C G X (k := 0) kd_0 1 (v := .ref (gB E + 9)) rfl rfl (by decide) k_406 rfl dX11_spent_1 ?_
  obtain ⟨r4, e4, h⟩ := bnd h
  refine afI X (runV C G X q_X7_withoutTaper k_719 k_720 k_718 (rcX7 G X kd_9) (c_X7_withoutTaper l E kd_9 e4) rfl hl.1 rfl (Nat.le_of_ble_eq_true rfl) ⟨Nat.le_of_ble_eq_true rfl, Nat.le_of_ble_eq_true rfl⟩ ⟨Nat.le_of_ble_eq_true rfl, Nat.le_of_ble_eq_true rfl⟩ dX11_spent_4) (fun H locs X => ?_)
  rw [← Option.some.inj h]
  exact rtI C X dX11_spent_7

theorem c_X11_spent (l : Launch) (E : GE) {σ : Mem} {r : Int32} (h : X11_spent σ = some r) : CtI l E yX11_spent cX11_spent 1 .int 3 [.ref (gB E + 0)] σ r σ := by
  refine Met.ofW (cc := cX11_spent) (maxL := 1) (ret := (some .int)) (by decide) rfl ?_
  intro p e s m args below meth c s₁ B hml hv
  obtain ⟨rfl, G, X⟩ := start hv
  have C := cxof B hml
  have hl := lv_entry [.ref (gB E + 0)] (n := 1) (Nat.le_of_ble_eq_true rfl)
  rw [lg_entry_eq]
  generalize (lg_sl [.ref (gB E + 0)] ++ List.replicate (1 - (lg_sl [.ref (gB E + 0)]).length) Slot.unset).toArray = ls at hl ⊢
  exact w_X11_spent C G X hl h

set_option maxRecDepth 20000 in
theorem w_X7_fullest_49 {r : Int32} {σ : Mem} {rc6 : Nat → Int32 → Int32 → Int32 → Option Int32} {rc20 : Nat → Int32 → Int32 → Int32 → Int32 → Int32 → Option Int32} {a0 : Nat} {x1 : Int32} {x2 : Int32} {x3 : Int32} {x5 : Int32} {y0 : Int32} {y1 : Int32} {ls : Array Slot} {H : Heap} {locs : List Loc} (C : Cx p s m args meth c cX7_fullest (some .int) 6 RX7) (G : Gf E s) (hr6 : ∀ {a0 : Nat} {x1 : Int32} {x2 : Int32} {x3 : Int32} {ls : Array Slot} {H : Heap} {locs : List Loc}, Hx E σ s H locs → kd a0 = 2 → lv_has ls 6 [(0, .ref (gB E + a0)), (1, .int x1), (2, .int x2), (3, .int x3)] → rc6 a0 x1 x2 x3 = some r → W p l e (RM 2) s m args below meth c H locs 0 0 (QI E below args s r σ) (F0 m 6 ls [])) (hr20 : ∀ {a0 : Nat} {x1 : Int32} {x2 : Int32} {x3 : Int32} {x4 : Int32} {x5 : Int32} {ls : Array Slot} {H : Heap} {locs : List Loc}, Hx E σ s H locs → kd a0 = 2 → lv_has ls 6 [(0, .ref (gB E + a0)), (1, .int x1), (2, .int x2), (3, .int x3), (4, .int x4), (5, .int x5)] → rc20 a0 x1 x2 x3 x4 x5 = some r → W p l e (RM 2) s m args below meth c H locs 0 0 (QI E below args s r σ) (F0 m 20 ls [])) (X : Hx E σ s H locs) (hk_a0 : kd a0 = 2) (hl : lv_has ls 6 [(0, .ref (gB E + a0)), (1, .int x1), (2, .int x2), (3, .int x3), (5, .int x5)]) (h : X7_fullest_49 σ rc6 rc20 a0 x1 x2 x3 x5 y0 y1 = some r) : W p l e (RM 2) s m args below meth c H locs 0 0 (QI E below args s r σ) (F0 m 49 ls [.int y1, .int y0]) := by
  rw [X7_fullest_49] at h
  refine lv_iadd C.1 C.2.1 dX7_fullest_49 ?_
  refine lv_istore (lv' := [(4, .int (y0 + y1)), (0, .ref (gB E + a0)), (1, .int x1), (2, .int x2), (3, .int x3), (5, .int x5)]) C.1 C.2.1 dX7_fullest_50 hl (by decide) rfl (fun ls hl => ?_)
  refine lv_iinc (v := (x5 + 1)) (lv' := [(5, .int (x5 + 1)), (4, .int (y0 + y1)), (0, .ref (gB E + a0)), (1, .int x1), (2, .int x2), (3, .int x3)]) C.1 C.2.1 dX7_fullest_52 hl (k := 5) rfl rfl (by decide) rfl (fun ls hl => ?_)
  refine lv_goto (tgt := 20) C.1 C.2.1 dX7_fullest_55 (by decide) ?_
  exact hr20 X hk_a0 (lv_sub hl [2, 3, 4, 5, 1, 0] rfl) h

set_option maxRecDepth 20000 in
theorem w_X7_fullest_20 {r : Int32} {σ : Mem} {rc6 : Nat → Int32 → Int32 → Int32 → Option Int32} (C : Cx p s m args meth c cX7_fullest (some .int) 6 RX7) (G : Gf E s) (hr6 : ∀ {a0 : Nat} {x1 : Int32} {x2 : Int32} {x3 : Int32} {ls : Array Slot} {H : Heap} {locs : List Loc}, Hx E σ s H locs → kd a0 = 2 → lv_has ls 6 [(0, .ref (gB E + a0)), (1, .int x1), (2, .int x2), (3, .int x3)] → rc6 a0 x1 x2 x3 = some r → W p l e (RM 2) s m args below meth c H locs 0 0 (QI E below args s r σ) (F0 m 6 ls [])) : ∀ (f : Nat) {a0 : Nat} {x1 : Int32} {x2 : Int32} {x3 : Int32} {x4 : Int32} {x5 : Int32} {ls : Array Slot} {H : Heap} {locs : List Loc}, Hx E σ s H locs → kd a0 = 2 → lv_has ls 6 [(0, .ref (gB E + a0)), (1, .int x1), (2, .int x2), (3, .int x3), (4, .int x4), (5, .int x5)] → X7_fullest_20 σ rc6 f a0 x1 x2 x3 x4 x5 = some r → W p l e (RM 2) s m args below meth c H locs 0 0 (QI E below args s r σ) (F0 m 20 ls []) := by
  intro f
  induction f with
  | zero =>
    intro a0 x1 x2 x3 x4 x5 ls H locs X hk_a0 hl h
    rw [X7_fullest_20] at h
    cases h
  | succ f ih =>
    intro a0 x1 x2 x3 x4 x5 ls H locs X hk_a0 hl h
    rw [X7_fullest_20] at h
    refine lv_iload C.1 C.2.1 dX7_fullest_20 (lv_at hl 5 rfl) ?_
    refine lv_aload_n C.1 C.2.1 dX7_fullest_22 rfl (lv_at hl 0 rfl) ?_
    refine gfX7 C G X (k := a0) hk_a0 1 (v := .int (σ a0 1)) rfl rfl (by decide) k_205 rfl dX7_fullest_23 ?_
    refine lv_icmp_ge (tgt := 58) C.1 C.2.1 dX7_fullest_26 (by decide) (fun c26 => ?_) (fun c26 => ?_)
    · replace h := ipos c26 h
      refine lv_iload C.1 C.2.1 dX7_fullest_58 (lv_at hl 4 rfl) ?_
      refine lv_iload_n C.1 C.2.1 dX7_fullest_60 rfl (lv_at hl 2 rfl) ?_
      refine lv_icmp_le (tgt := 69) C.1 C.2.1 dX7_fullest_61 (by decide) (fun c61 => ?_) (fun c61 => ?_)
      · replace h := ipos c61 h
        refine lv_iinc (v := (x3 + 1)) (lv' := [(3, .int (x3 + 1)), (0, .ref (gB E + a0)), (1, .int x1), (2, .int x2), (4, .int x4), (5, .int x5)]) C.1 C.2.1 dX7_fullest_69 hl (k := 3) rfl rfl (by decide) rfl (fun ls hl => ?_)
        refine lv_goto (tgt := 6) C.1 C.2.1 dX7_fullest_72 (by decide) ?_
        exact hr6 X hk_a0 (lv_sub hl [1, 2, 3, 0] rfl) h
      · replace h := ineg c61 h
        refine lv_iload C.1 C.2.1 dX7_fullest_64 (lv_at hl 4 rfl) ?_
        refine lv_istore_n (lv' := [(2, .int x4), (0, .ref (gB E + a0)), (1, .int x1), (3, .int x3), (4, .int x4), (5, .int x5)]) C.1 C.2.1 dX7_fullest_66 rfl hl (by decide) rfl (fun ls hl => ?_)
        refine lv_iload_n C.1 C.2.1 dX7_fullest_67 rfl (lv_at hl 3 rfl) ?_
        refine lv_istore_n (lv' := [(1, .int x3), (2, .int x4), (0, .ref (gB E + a0)), (3, .int x3), (4, .int x4), (5, .int x5)]) C.1 C.2.1 dX7_fullest_68 rfl hl (by decide) rfl (fun ls hl => ?_)
        refine lv_iinc (v := (x3 + 1)) (lv' := [(3, .int (x3 + 1)), (1, .int x3), (2, .int x4), (0, .ref (gB E + a0)), (4, .int x4), (5, .int x5)]) C.1 C.2.1 dX7_fullest_69 hl (k := 3) rfl rfl (by decide) rfl (fun ls hl => ?_)
        refine lv_goto (tgt := 6) C.1 C.2.1 dX7_fullest_72 (by decide) ?_
        exact hr6 X hk_a0 (lv_sub hl [3, 1, 2, 0] rfl) h
    · replace h := ineg c26 h
      refine lv_iload C.1 C.2.1 dX7_fullest_29 (lv_at hl 4 rfl) ?_
      refine lv_aload_n C.1 C.2.1 dX7_fullest_31 rfl (lv_at hl 0 rfl) ?_
      refine gfX7 C G X (k := a0) hk_a0 13 (v := .ref (gB E + (a0 + 9))) rfl rfl (by decide) k_247 rfl dX7_fullest_32 ?_
      refine lv_iload C.1 C.2.1 dX7_fullest_35 (lv_at hl 5 rfl) ?_
      obtain ⟨r37, e37, h⟩ := bnd h
      refine afI X (runV C G X q_X6_get k_498 k_499 k_515 (rcX6 G X (kf_2_9 hk_a0)) (c_X6_get l E (kf_2_9 hk_a0) e37) rfl hl.1 rfl (Nat.le_of_ble_eq_true rfl) ⟨Nat.le_of_ble_eq_true rfl, Nat.le_of_ble_eq_true rfl⟩ ⟨Nat.le_of_ble_eq_true rfl, Nat.le_of_ble_eq_true rfl⟩ dX7_fullest_37) (fun H locs X => ?_)
      refine lv_iload_n C.1 C.2.1 dX7_fullest_40 rfl (lv_at hl 3 rfl) ?_
      refine lv_icmp_ne (tgt := 48) C.1 C.2.1 dX7_fullest_41 (by decide) (fun c41 => ?_) (fun c41 => ?_)
      · replace h := ineg c41 h
        refine lv_iconst (v := 0) C.1 C.2.1 dX7_fullest_48 (by decide) ?_
        exact w_X7_fullest_49 C G hr6 ih X hk_a0 (lv_sub hl [0, 1, 2, 3, 5] rfl) h
      · replace h := ipos c41 h
        refine lv_iconst (v := 1) C.1 C.2.1 dX7_fullest_44 (by decide) ?_
        refine lv_goto (tgt := 49) C.1 C.2.1 dX7_fullest_45 (by decide) ?_
        exact w_X7_fullest_49 C G hr6 ih X hk_a0 (lv_sub hl [0, 1, 2, 3, 5] rfl) h

set_option maxRecDepth 20000 in
theorem w_X7_fullest_6 {r : Int32} {σ : Mem} (C : Cx p s m args meth c cX7_fullest (some .int) 6 RX7) (G : Gf E s) : ∀ (f : Nat) {a0 : Nat} {x1 : Int32} {x2 : Int32} {x3 : Int32} {ls : Array Slot} {H : Heap} {locs : List Loc}, Hx E σ s H locs → kd a0 = 2 → lv_has ls 6 [(0, .ref (gB E + a0)), (1, .int x1), (2, .int x2), (3, .int x3)] → X7_fullest_6 σ f a0 x1 x2 x3 = some r → W p l e (RM 2) s m args below meth c H locs 0 0 (QI E below args s r σ) (F0 m 6 ls []) := by
  intro f
  induction f with
  | zero =>
    intro a0 x1 x2 x3 ls H locs X hk_a0 hl h
    rw [X7_fullest_6] at h
    cases h
  | succ f ih =>
    intro a0 x1 x2 x3 ls H locs X hk_a0 hl h
    rw [X7_fullest_6] at h
    refine lv_iload_n C.1 C.2.1 dX7_fullest_6 rfl (lv_at hl 3 rfl) ?_
    refine lv_aload_n C.1 C.2.1 dX7_fullest_7 rfl (lv_at hl 0 rfl) ?_
    refine gfX7 C G X (k := a0) hk_a0 0 (v := .int (σ a0 0)) rfl rfl (by decide) k_198 rfl dX7_fullest_8 ?_
    refine lv_icmp_ge (tgt := 75) C.1 C.2.1 dX7_fullest_11 (by decide) (fun c11 => ?_) (fun c11 => ?_)
    · replace h := ipos c11 h
      refine lv_iload_n C.1 C.2.1 dX7_fullest_75 rfl (lv_at hl 1 rfl) ?_
      rw [← Option.some.inj h]
      exact rtI C X dX7_fullest_76
    · replace h := ineg c11 h
      refine lv_iconst (v := 0) C.1 C.2.1 dX7_fullest_14 (by decide) ?_
      refine lv_istore (lv' := [(4, .int (0 : Int32)), (0, .ref (gB E + a0)), (1, .int x1), (2, .int x2), (3, .int x3)]) C.1 C.2.1 dX7_fullest_15 hl (by decide) rfl (fun ls hl => ?_)
      refine lv_iconst (v := 0) C.1 C.2.1 dX7_fullest_17 (by decide) ?_
      refine lv_istore (lv' := [(5, .int (0 : Int32)), (4, .int (0 : Int32)), (0, .ref (gB E + a0)), (1, .int x1), (2, .int x2), (3, .int x3)]) C.1 C.2.1 dX7_fullest_18 hl (by decide) rfl (fun ls hl => ?_)
      exact w_X7_fullest_20 C G ih FU X hk_a0 (lv_sub hl [2, 3, 4, 5, 1, 0] rfl) h

set_option maxRecDepth 20000 in
theorem w_X7_fullest {r : Int32} {σ : Mem} {a0 : Nat} {ls : Array Slot} {H : Heap} {locs : List Loc} (C : Cx p s m args meth c cX7_fullest (some .int) 6 RX7) (G : Gf E s) (X : Hx E σ s H locs) (hk_a0 : kd a0 = 2) (hl : lv_has ls 6 [(0, .ref (gB E + a0))]) (h : X7_fullest σ a0 = some r) : W p l e (RM 2) s m args below meth c H locs 0 0 (QI E below args s r σ) (F0 m 0 ls []) := by
  rw [X7_fullest] at h
  refine lv_iconst (v := -1) C.1 C.2.1 dX7_fullest_0 (by decide) ?_
  refine lv_istore_n (lv' := [(1, .int (-1 : Int32)), (0, .ref (gB E + a0))]) C.1 C.2.1 dX7_fullest_1 rfl hl (by decide) rfl (fun ls hl => ?_)
  refine lv_iconst (v := 0) C.1 C.2.1 dX7_fullest_2 (by decide) ?_
  refine lv_istore_n (lv' := [(2, .int (0 : Int32)), (1, .int (-1 : Int32)), (0, .ref (gB E + a0))]) C.1 C.2.1 dX7_fullest_3 rfl hl (by decide) rfl (fun ls hl => ?_)
  refine lv_iconst (v := 0) C.1 C.2.1 dX7_fullest_4 (by decide) ?_
  refine lv_istore_n (lv' := [(3, .int (0 : Int32)), (2, .int (0 : Int32)), (1, .int (-1 : Int32)), (0, .ref (gB E + a0))]) C.1 C.2.1 dX7_fullest_5 rfl hl (by decide) rfl (fun ls hl => ?_)
  exact w_X7_fullest_6 C G FU X hk_a0 (lv_sub hl [3, 2, 1, 0] rfl) h

theorem c_X7_fullest (l : Launch) (E : GE) {σ : Mem} {a0 : Nat} (hk_a0 : kd a0 = 2) {r : Int32} (h : X7_fullest σ a0 = some r) : CtI l E yX7_fullest cX7_fullest 6 .int 2 [.ref (gB E + a0)] σ r σ := by
  refine Met.ofW (cc := cX7_fullest) (maxL := 6) (ret := (some .int)) (by decide) rfl ?_
  intro p e s m args below meth c s₁ B hml hv
  obtain ⟨rfl, G, X⟩ := start hv
  have C := cxof B hml
  have hl := lv_entry [.ref (gB E + a0)] (n := 6) (Nat.le_of_ble_eq_true rfl)
  rw [lg_entry_eq]
  generalize (lg_sl [.ref (gB E + a0)] ++ List.replicate (6 - (lg_sl [.ref (gB E + a0)]).length) Slot.unset).toArray = ls at hl ⊢
  exact w_X7_fullest C G X hk_a0 hl h

set_option maxRecDepth 20000 in
theorem w_X11_crowd {r : Int32} {σ : Mem} {ls : Array Slot} {H : Heap} {locs : List Loc} (C : Cx p s m args meth c cX11_crowd (some .int) 1 RX11) (G : Gf E s) (X : Hx E σ s H locs) (hl : lv_has ls 1 [(0, .ref (gB E + 0))]) (h : X11_crowd σ = some r) : W p l e (RM 3) s m args below meth c H locs 0 0 (QI E below args s r σ) (F0 m 0 ls []) := by
  rw [X11_crowd] at h
  refine lv_aload_n C.1 C.2.1 dX11_crowd_0 rfl (lv_at hl 0 rfl) ?_
  refine gfX11 C G X (k := 0) kd_0 1 (v := .ref (gB E + 9)) rfl rfl (by decide) k_406 rfl dX11_crowd_1 ?_
  obtain ⟨r4, e4, h⟩ := bnd h
  refine afI X (runV C G X q_X7_fullest k_727 k_728 k_726 (rcX7 G X kd_9) (c_X7_fullest l E kd_9 e4) rfl hl.1 rfl (Nat.le_of_ble_eq_true rfl) ⟨Nat.le_of_ble_eq_true rfl, Nat.le_of_ble_eq_true rfl⟩ ⟨Nat.le_of_ble_eq_true rfl, Nat.le_of_ble_eq_true rfl⟩ dX11_crowd_4) (fun H locs X => ?_)
  rw [← Option.some.inj h]
  exact rtI C X dX11_crowd_7

theorem c_X11_crowd (l : Launch) (E : GE) {σ : Mem} {r : Int32} (h : X11_crowd σ = some r) : CtI l E yX11_crowd cX11_crowd 1 .int 3 [.ref (gB E + 0)] σ r σ := by
  refine Met.ofW (cc := cX11_crowd) (maxL := 1) (ret := (some .int)) (by decide) rfl ?_
  intro p e s m args below meth c s₁ B hml hv
  obtain ⟨rfl, G, X⟩ := start hv
  have C := cxof B hml
  have hl := lv_entry [.ref (gB E + 0)] (n := 1) (Nat.le_of_ble_eq_true rfl)
  rw [lg_entry_eq]
  generalize (lg_sl [.ref (gB E + 0)] ++ List.replicate (1 - (lg_sl [.ref (gB E + 0)]).length) Slot.unset).toArray = ls at hl ⊢
  exact w_X11_crowd C G X hl h

set_option maxRecDepth 20000 in
theorem w_X7_likePairs_16 {r : Int32} {σ : Mem} {rc4 : Nat → Int32 → Int32 → Option Int32} (C : Cx p s m args meth c cX7_likePairs (some .int) 4 RX7) (G : Gf E s) (hr4 : ∀ {a0 : Nat} {x1 : Int32} {x2 : Int32} {ls : Array Slot} {H : Heap} {locs : List Loc}, Hx E σ s H locs → kd a0 = 2 → lv_has ls 4 [(0, .ref (gB E + a0)), (1, .int x1), (2, .int x2)] → rc4 a0 x1 x2 = some r → W p l e (RM 2) s m args below meth c H locs 0 0 (QI E below args s r σ) (F0 m 4 ls [])) : ∀ (f : Nat) {a0 : Nat} {x1 : Int32} {x2 : Int32} {x3 : Int32} {ls : Array Slot} {H : Heap} {locs : List Loc}, Hx E σ s H locs → kd a0 = 2 → lv_has ls 4 [(0, .ref (gB E + a0)), (1, .int x1), (2, .int x2), (3, .int x3)] → X7_likePairs_16 σ rc4 f a0 x1 x2 x3 = some r → W p l e (RM 2) s m args below meth c H locs 0 0 (QI E below args s r σ) (F0 m 16 ls []) := by
  intro f
  induction f with
  | zero =>
    intro a0 x1 x2 x3 ls H locs X hk_a0 hl h
    rw [X7_likePairs_16] at h
    cases h
  | succ f ih =>
    intro a0 x1 x2 x3 ls H locs X hk_a0 hl h
    rw [X7_likePairs_16] at h
    refine lv_iload_n C.1 C.2.1 dX7_likePairs_16 rfl (lv_at hl 3 rfl) ?_
    refine lv_aload_n C.1 C.2.1 dX7_likePairs_17 rfl (lv_at hl 0 rfl) ?_
    refine gfX7 C G X (k := a0) hk_a0 1 (v := .int (σ a0 1)) rfl rfl (by decide) k_205 rfl dX7_likePairs_18 ?_
    refine lv_icmp_ge (tgt := 71) C.1 C.2.1 dX7_likePairs_21 (by decide) (fun c21 => ?_) (fun c21 => ?_)
    · replace h := ipos c21 h
      refine lv_iinc (v := (x2 + 1)) (lv' := [(2, .int (x2 + 1)), (0, .ref (gB E + a0)), (1, .int x1), (3, .int x3)]) C.1 C.2.1 dX7_likePairs_71 hl (k := 2) rfl rfl (by decide) rfl (fun ls hl => ?_)
      refine lv_goto (tgt := 4) C.1 C.2.1 dX7_likePairs_74 (by decide) ?_
      exact hr4 X hk_a0 (lv_sub hl [1, 2, 0] rfl) h
    · replace h := ineg c21 h
      refine lv_aload_n C.1 C.2.1 dX7_likePairs_24 rfl (lv_at hl 0 rfl) ?_
      refine gfX7 C G X (k := a0) hk_a0 14 (v := .ref (gB E + (a0 + 11))) rfl rfl (by decide) k_251 rfl dX7_likePairs_25 ?_
      refine lv_iload_n C.1 C.2.1 dX7_likePairs_28 rfl (lv_at hl 2 rfl) ?_
      obtain ⟨r29, e29, h⟩ := bnd h
      refine afI X (runV C G X q_X6_get k_498 k_499 k_515 (rcX6 G X (kf_2_11 hk_a0)) (c_X6_get l E (kf_2_11 hk_a0) e29) rfl hl.1 rfl (Nat.le_of_ble_eq_true rfl) ⟨Nat.le_of_ble_eq_true rfl, Nat.le_of_ble_eq_true rfl⟩ ⟨Nat.le_of_ble_eq_true rfl, Nat.le_of_ble_eq_true rfl⟩ dX7_likePairs_29) (fun H locs X => ?_)
      refine lv_aload_n C.1 C.2.1 dX7_likePairs_32 rfl (lv_at hl 0 rfl) ?_
      refine gfX7 C G X (k := a0) hk_a0 14 (v := .ref (gB E + (a0 + 11))) rfl rfl (by decide) k_251 rfl dX7_likePairs_33 ?_
      refine lv_iload_n C.1 C.2.1 dX7_likePairs_36 rfl (lv_at hl 3 rfl) ?_
      obtain ⟨r37, e37, h⟩ := bnd h
      refine afI X (runV C G X q_X6_get k_498 k_499 k_515 (rcX6 G X (kf_2_11 hk_a0)) (c_X6_get l E (kf_2_11 hk_a0) e37) rfl hl.1 rfl (Nat.le_of_ble_eq_true rfl) ⟨Nat.le_of_ble_eq_true rfl, Nat.le_of_ble_eq_true rfl⟩ ⟨Nat.le_of_ble_eq_true rfl, Nat.le_of_ble_eq_true rfl⟩ dX7_likePairs_37) (fun H locs X => ?_)
      refine lv_icmp_ne (tgt := 65) C.1 C.2.1 dX7_likePairs_40 (by decide) (fun c40 => ?_) (fun c40 => ?_)
      · replace h := ineg c40 h
        refine lv_iinc (v := (x3 + 1)) (lv' := [(3, .int (x3 + 1)), (0, .ref (gB E + a0)), (1, .int x1), (2, .int x2)]) C.1 C.2.1 dX7_likePairs_65 hl (k := 3) rfl rfl (by decide) rfl (fun ls hl => ?_)
        refine lv_goto (tgt := 16) C.1 C.2.1 dX7_likePairs_68 (by decide) ?_
        exact ih X hk_a0 (lv_sub hl [1, 2, 3, 0] rfl) h
      · replace h := ipos c40 h
        refine lv_aload_n C.1 C.2.1 dX7_likePairs_43 rfl (lv_at hl 0 rfl) ?_
        refine gfX7 C G X (k := a0) hk_a0 13 (v := .ref (gB E + (a0 + 9))) rfl rfl (by decide) k_247 rfl dX7_likePairs_44 ?_
        refine lv_iload_n C.1 C.2.1 dX7_likePairs_47 rfl (lv_at hl 2 rfl) ?_
        obtain ⟨r48, e48, h⟩ := bnd h
        refine afI X (runV C G X q_X6_get k_498 k_499 k_515 (rcX6 G X (kf_2_9 hk_a0)) (c_X6_get l E (kf_2_9 hk_a0) e48) rfl hl.1 rfl (Nat.le_of_ble_eq_true rfl) ⟨Nat.le_of_ble_eq_true rfl, Nat.le_of_ble_eq_true rfl⟩ ⟨Nat.le_of_ble_eq_true rfl, Nat.le_of_ble_eq_true rfl⟩ dX7_likePairs_48) (fun H locs X => ?_)
        refine lv_aload_n C.1 C.2.1 dX7_likePairs_51 rfl (lv_at hl 0 rfl) ?_
        refine gfX7 C G X (k := a0) hk_a0 13 (v := .ref (gB E + (a0 + 9))) rfl rfl (by decide) k_247 rfl dX7_likePairs_52 ?_
        refine lv_iload_n C.1 C.2.1 dX7_likePairs_55 rfl (lv_at hl 3 rfl) ?_
        obtain ⟨r56, e56, h⟩ := bnd h
        refine afI X (runV C G X q_X6_get k_498 k_499 k_515 (rcX6 G X (kf_2_9 hk_a0)) (c_X6_get l E (kf_2_9 hk_a0) e56) rfl hl.1 rfl (Nat.le_of_ble_eq_true rfl) ⟨Nat.le_of_ble_eq_true rfl, Nat.le_of_ble_eq_true rfl⟩ ⟨Nat.le_of_ble_eq_true rfl, Nat.le_of_ble_eq_true rfl⟩ dX7_likePairs_56) (fun H locs X => ?_)
        refine lv_icmp_ne (tgt := 65) C.1 C.2.1 dX7_likePairs_59 (by decide) (fun c59 => ?_) (fun c59 => ?_)
        · replace h := ineg c59 h
          refine lv_iinc (v := (x3 + 1)) (lv' := [(3, .int (x3 + 1)), (0, .ref (gB E + a0)), (1, .int x1), (2, .int x2)]) C.1 C.2.1 dX7_likePairs_65 hl (k := 3) rfl rfl (by decide) rfl (fun ls hl => ?_)
          refine lv_goto (tgt := 16) C.1 C.2.1 dX7_likePairs_68 (by decide) ?_
          exact ih X hk_a0 (lv_sub hl [1, 2, 3, 0] rfl) h
        · replace h := ipos c59 h
          refine lv_iinc (v := (x1 + 1)) (lv' := [(1, .int (x1 + 1)), (0, .ref (gB E + a0)), (2, .int x2), (3, .int x3)]) C.1 C.2.1 dX7_likePairs_62 hl (k := 1) rfl rfl (by decide) rfl (fun ls hl => ?_)
          refine lv_iinc (v := (x3 + 1)) (lv' := [(3, .int (x3 + 1)), (1, .int (x1 + 1)), (0, .ref (gB E + a0)), (2, .int x2)]) C.1 C.2.1 dX7_likePairs_65 hl (k := 3) rfl rfl (by decide) rfl (fun ls hl => ?_)
          refine lv_goto (tgt := 16) C.1 C.2.1 dX7_likePairs_68 (by decide) ?_
          exact ih X hk_a0 (lv_sub hl [2, 1, 3, 0] rfl) h

set_option maxRecDepth 20000 in
theorem w_X7_likePairs_4 {r : Int32} {σ : Mem} (C : Cx p s m args meth c cX7_likePairs (some .int) 4 RX7) (G : Gf E s) : ∀ (f : Nat) {a0 : Nat} {x1 : Int32} {x2 : Int32} {ls : Array Slot} {H : Heap} {locs : List Loc}, Hx E σ s H locs → kd a0 = 2 → lv_has ls 4 [(0, .ref (gB E + a0)), (1, .int x1), (2, .int x2)] → X7_likePairs_4 σ f a0 x1 x2 = some r → W p l e (RM 2) s m args below meth c H locs 0 0 (QI E below args s r σ) (F0 m 4 ls []) := by
  intro f
  induction f with
  | zero =>
    intro a0 x1 x2 ls H locs X hk_a0 hl h
    rw [X7_likePairs_4] at h
    cases h
  | succ f ih =>
    intro a0 x1 x2 ls H locs X hk_a0 hl h
    rw [X7_likePairs_4] at h
    refine lv_iload_n C.1 C.2.1 dX7_likePairs_4 rfl (lv_at hl 2 rfl) ?_
    refine lv_aload_n C.1 C.2.1 dX7_likePairs_5 rfl (lv_at hl 0 rfl) ?_
    refine gfX7 C G X (k := a0) hk_a0 1 (v := .int (σ a0 1)) rfl rfl (by decide) k_205 rfl dX7_likePairs_6 ?_
    refine lv_icmp_ge (tgt := 77) C.1 C.2.1 dX7_likePairs_9 (by decide) (fun c9 => ?_) (fun c9 => ?_)
    · replace h := ipos c9 h
      refine lv_iload_n C.1 C.2.1 dX7_likePairs_77 rfl (lv_at hl 1 rfl) ?_
      rw [← Option.some.inj h]
      exact rtI C X dX7_likePairs_78
    · replace h := ineg c9 h
      refine lv_iload_n C.1 C.2.1 dX7_likePairs_12 rfl (lv_at hl 2 rfl) ?_
      refine lv_iconst (v := 1) C.1 C.2.1 dX7_likePairs_13 (by decide) ?_
      refine lv_iadd C.1 C.2.1 dX7_likePairs_14 ?_
      refine lv_istore_n (lv' := [(3, .int (x2 + (1 : Int32))), (0, .ref (gB E + a0)), (1, .int x1), (2, .int x2)]) C.1 C.2.1 dX7_likePairs_15 rfl hl (by decide) rfl (fun ls hl => ?_)
      exact w_X7_likePairs_16 C G ih FU X hk_a0 (lv_sub hl [1, 2, 3, 0] rfl) h

set_option maxRecDepth 20000 in
theorem w_X7_likePairs {r : Int32} {σ : Mem} {a0 : Nat} {ls : Array Slot} {H : Heap} {locs : List Loc} (C : Cx p s m args meth c cX7_likePairs (some .int) 4 RX7) (G : Gf E s) (X : Hx E σ s H locs) (hk_a0 : kd a0 = 2) (hl : lv_has ls 4 [(0, .ref (gB E + a0))]) (h : X7_likePairs σ a0 = some r) : W p l e (RM 2) s m args below meth c H locs 0 0 (QI E below args s r σ) (F0 m 0 ls []) := by
  rw [X7_likePairs] at h
  refine lv_iconst (v := 0) C.1 C.2.1 dX7_likePairs_0 (by decide) ?_
  refine lv_istore_n (lv' := [(1, .int (0 : Int32)), (0, .ref (gB E + a0))]) C.1 C.2.1 dX7_likePairs_1 rfl hl (by decide) rfl (fun ls hl => ?_)
  refine lv_iconst (v := 0) C.1 C.2.1 dX7_likePairs_2 (by decide) ?_
  refine lv_istore_n (lv' := [(2, .int (0 : Int32)), (1, .int (0 : Int32)), (0, .ref (gB E + a0))]) C.1 C.2.1 dX7_likePairs_3 rfl hl (by decide) rfl (fun ls hl => ?_)
  exact w_X7_likePairs_4 C G FU X hk_a0 (lv_sub hl [2, 1, 0] rfl) h

theorem c_X7_likePairs (l : Launch) (E : GE) {σ : Mem} {a0 : Nat} (hk_a0 : kd a0 = 2) {r : Int32} (h : X7_likePairs σ a0 = some r) : CtI l E yX7_likePairs cX7_likePairs 4 .int 2 [.ref (gB E + a0)] σ r σ := by
  refine Met.ofW (cc := cX7_likePairs) (maxL := 4) (ret := (some .int)) (by decide) rfl ?_
  intro p e s m args below meth c s₁ B hml hv
  obtain ⟨rfl, G, X⟩ := start hv
  have C := cxof B hml
  have hl := lv_entry [.ref (gB E + a0)] (n := 4) (Nat.le_of_ble_eq_true rfl)
  rw [lg_entry_eq]
  generalize (lg_sl [.ref (gB E + a0)] ++ List.replicate (4 - (lg_sl [.ref (gB E + a0)]).length) Slot.unset).toArray = ls at hl ⊢
  exact w_X7_likePairs C G X hk_a0 hl h

set_option maxRecDepth 20000 in
theorem w_X11_alike {r : Int32} {σ : Mem} {ls : Array Slot} {H : Heap} {locs : List Loc} (C : Cx p s m args meth c cX11_alike (some .int) 1 RX11) (G : Gf E s) (X : Hx E σ s H locs) (hl : lv_has ls 1 [(0, .ref (gB E + 0))]) (h : X11_alike σ = some r) : W p l e (RM 3) s m args below meth c H locs 0 0 (QI E below args s r σ) (F0 m 0 ls []) := by
  rw [X11_alike] at h
  refine lv_aload_n C.1 C.2.1 dX11_alike_0 rfl (lv_at hl 0 rfl) ?_
  refine gfX11 C G X (k := 0) kd_0 1 (v := .ref (gB E + 9)) rfl rfl (by decide) k_406 rfl dX11_alike_1 ?_
  obtain ⟨r4, e4, h⟩ := bnd h
  refine afI X (runV C G X q_X7_likePairs k_735 k_736 k_734 (rcX7 G X kd_9) (c_X7_likePairs l E kd_9 e4) rfl hl.1 rfl (Nat.le_of_ble_eq_true rfl) ⟨Nat.le_of_ble_eq_true rfl, Nat.le_of_ble_eq_true rfl⟩ ⟨Nat.le_of_ble_eq_true rfl, Nat.le_of_ble_eq_true rfl⟩ dX11_alike_4) (fun H locs X => ?_)
  rw [← Option.some.inj h]
  exact rtI C X dX11_alike_7

theorem c_X11_alike (l : Launch) (E : GE) {σ : Mem} {r : Int32} (h : X11_alike σ = some r) : CtI l E yX11_alike cX11_alike 1 .int 3 [.ref (gB E + 0)] σ r σ := by
  refine Met.ofW (cc := cX11_alike) (maxL := 1) (ret := (some .int)) (by decide) rfl ?_
  intro p e s m args below meth c s₁ B hml hv
  obtain ⟨rfl, G, X⟩ := start hv
  have C := cxof B hml
  have hl := lv_entry [.ref (gB E + 0)] (n := 1) (Nat.le_of_ble_eq_true rfl)
  rw [lg_entry_eq]
  generalize (lg_sl [.ref (gB E + 0)] ++ List.replicate (1 - (lg_sl [.ref (gB E + 0)]).length) Slot.unset).toArray = ls at hl ⊢
  exact w_X11_alike C G X hl h

set_option maxRecDepth 20000 in
theorem w_X0_after_20 {r : Mem} (C : Cx p s m args meth c cX0_after (some (.object "PaneStreet$Street")) 7 RX0) (G : Gf E s) : ∀ (f : Nat) {a2 : Nat} {x3 : Int32} {x4 : Int32} {x6 : Int32} {σ : Mem} {ls : Array Slot} {H : Heap} {locs : List Loc}, Hx E σ s H locs → kd a2 = 3 → lv_has ls 7 [(0, .ref (gB E + 365)), (2, .ref (gB E + a2)), (3, .int x3), (4, .int x4), (6, .int x6)] → X0_after_20 f a2 x3 x4 x6 σ = some r → W p l e (RM 7) s m args below meth c H locs 0 0 (QO E below args s (some 366) r) (F0 m 20 ls []) := by
  intro f
  induction f with
  | zero =>
    intro a2 x3 x4 x6 σ ls H locs X hk_a2 hl h
    rw [X0_after_20] at h
    cases h
  | succ f ih =>
    intro a2 x3 x4 x6 σ ls H locs X hk_a2 hl h
    rw [X0_after_20] at h
    refine lv_iload C.1 C.2.1 dX0_after_20 (lv_at hl 4 rfl) ?_
    refine lv_iload_n C.1 C.2.1 dX0_after_22 rfl (lv_at hl 2 rfl) ?_
    refine lv_icmp_ge (tgt := 44) C.1 C.2.1 dX0_after_23 (by decide) (fun c23 => ?_) (fun c23 => ?_)
    · replace h := ipos c23 h
      refine lv_aload_n C.1 C.2.1 dX0_after_44 rfl (lv_at hl 0 rfl) ?_
      refine gfX0 C G X (k := 365) kd_365 0 (v := .ref (gB E + 366)) rfl rfl (by decide) k_368 rfl dX0_after_45 ?_
      rw [← Option.some.inj h]
      exact rtQ C X dX0_after_48
    · replace h := ineg c23 h
      refine lv_aload_n C.1 C.2.1 dX0_after_26 rfl (lv_at hl 0 rfl) ?_
      refine lv_aload_n C.1 C.2.1 dX0_after_27 rfl (lv_at hl 0 rfl) ?_
      refine gfX0 C G X (k := 365) kd_365 0 (v := .ref (gB E + 366)) rfl rfl (by decide) k_368 rfl dX0_after_28 ?_
      refine lv_aload_n C.1 C.2.1 dX0_after_31 rfl (lv_at hl 1 rfl) ?_
      refine lv_iload C.1 C.2.1 dX0_after_32 (lv_at hl 3 rfl) ?_
      obtain ⟨r34, σ34, e34, h⟩ := bnd2 h
      refine afI (r0 := r34) (σ' := σ34) X (runV C G X q_X0_tick k_485 k_486 k_484 (rcX0 G X kd_365) (c_X0_tick l E kd_366 hk_a2 e34) rfl hl.1 rfl (Nat.le_of_ble_eq_true rfl) ⟨Nat.le_of_ble_eq_true rfl, Nat.le_of_ble_eq_true rfl⟩ ⟨Nat.le_of_ble_eq_true rfl, Nat.le_of_ble_eq_true rfl⟩ dX0_after_34) (fun H locs X => ?_)
      refine lv_pop C.1 C.2.1 dX0_after_37 rfl ?_
      refine lv_iinc (v := (x6 + 1)) (lv' := [(6, .int (x6 + 1)), (0, .ref (gB E + 365)), (2, .ref (gB E + a2)), (3, .int x3), (4, .int x4)]) C.1 C.2.1 dX0_after_38 hl (k := 4) rfl rfl (by decide) rfl (fun ls hl => ?_)
      refine lv_goto (tgt := 20) C.1 C.2.1 dX0_after_41 (by decide) ?_
      exact ih X hk_a2 (lv_sub hl [1, 2, 3, 4, 0] rfl) h

set_option maxRecDepth 20000 in
theorem w_X0_after {r : Mem} {σ : Mem} {a1 : Nat} {a2 : Nat} {x3 : Int32} {x4 : Int32} {x5 : Int32} {ls : Array Slot} {H : Heap} {locs : List Loc} (C : Cx p s m args meth c cX0_after (some (.object "PaneStreet$Street")) 7 RX0) (G : Gf E s) (X : Hx E σ s H locs) (hk_a1 : kd a1 = 2) (hk_a2 : kd a2 = 3) (hl : lv_has ls 7 [(0, .ref (gB E + 365)), (1, .ref (gB E + a1)), (2, .ref (gB E + a2)), (3, .int x3), (4, .int x4), (5, .int x5)]) (h : X0_after a1 a2 x3 x4 x5 σ = some r) : W p l e (RM 7) s m args below meth c H locs 0 0 (QO E below args s (some 366) r) (F0 m 0 ls []) := by
  rw [X0_after] at h
  refine lv_aload_n C.1 C.2.1 dX0_after_0 rfl (lv_at hl 0 rfl) ?_
  refine gfX0 C G X (k := 365) kd_365 0 (v := .ref (gB E + 366)) rfl rfl (by decide) k_368 rfl dX0_after_1 ?_
  refine lv_aload_n C.1 C.2.1 dX0_after_4 rfl (lv_at hl 1 rfl) ?_
  obtain ⟨σ5, e5, h⟩ := bnd h
  refine afV X (runV C G X q_X7_copyFrom k_471 k_472 k_470 (rcX7 G X kd_366) (c_X7_copyFrom l E kd_366 hk_a1 e5) rfl hl.1 rfl (Nat.le_of_ble_eq_true rfl) ⟨Nat.le_of_ble_eq_true rfl, Nat.le_of_ble_eq_true rfl⟩ ⟨Nat.le_of_ble_eq_true rfl, Nat.le_of_ble_eq_true rfl⟩ dX0_after_5) (fun H locs X => ?_)
  refine lv_aload_n C.1 C.2.1 dX0_after_8 rfl (lv_at hl 0 rfl) ?_
  refine gfX0 C G X (k := 365) kd_365 0 (v := .ref (gB E + 366)) rfl rfl (by decide) k_368 rfl dX0_after_9 ?_
  refine lv_iload C.1 C.2.1 dX0_after_12 (lv_at hl 5 rfl) ?_
  obtain ⟨σ14, e14, h⟩ := bnd h
  refine pfX7 C G X (k := 366) kd_366 7 (x := x5) (ty := .int) rfl rfl (Nat.le_of_ble_eq_true rfl) (by decide) k_227 rfl rfl (by decide +kernel) rfl rfl dX0_after_14 (fun H locs X => ?_)
  replace X := pu_x e14 X
  refine lv_iconst (v := 0) C.1 C.2.1 dX0_after_17 (by decide) ?_
  refine lv_istore (lv' := [(6, .int (0 : Int32)), (0, .ref (gB E + 365)), (1, .ref (gB E + a1)), (2, .ref (gB E + a2)), (3, .int x3), (4, .int x4), (5, .int x5)]) C.1 C.2.1 dX0_after_18 hl (by decide) rfl (fun ls hl => ?_)
  exact w_X0_after_20 C G FU X hk_a2 (lv_sub hl [1, 3, 4, 5, 0] rfl) h

theorem c_X0_after (l : Launch) (E : GE) {σ : Mem} {a1 : Nat} {a2 : Nat} {x3 : Int32} {x4 : Int32} {x5 : Int32} (hk_a1 : kd a1 = 2) (hk_a2 : kd a2 = 3) {r : Mem} (h : X0_after a1 a2 x3 x4 x5 σ = some r) : CtO l E yX0_after cX0_after 7 (.object "PaneStreet$Street") 7 [.ref (gB E + 365), .ref (gB E + a1), .ref (gB E + a2), .int x3, .int x4, .int x5] σ (some 366) r := by
  refine Met.ofW (cc := cX0_after) (maxL := 7) (ret := (some (.object "PaneStreet$Street"))) (by decide) rfl ?_
  intro p e s m args below meth c s₁ B hml hv
  obtain ⟨rfl, G, X⟩ := start hv
  have C := cxof B hml
  have hl := lv_entry [.ref (gB E + 365), .ref (gB E + a1), .ref (gB E + a2), .int x3, .int x4, .int x5] (n := 7) (Nat.le_of_ble_eq_true rfl)
  rw [lg_entry_eq]
  generalize (lg_sl [.ref (gB E + 365), .ref (gB E + a1), .ref (gB E + a2), .int x3, .int x4, .int x5] ++ List.replicate (7 - (lg_sl [.ref (gB E + 365), .ref (gB E + a1), .ref (gB E + a2), .int x3, .int x4, .int x5]).length) Slot.unset).toArray = ls at hl ⊢
  exact w_X0_after C G X hk_a1 hk_a2 hl h

set_option maxRecDepth 20000 in
theorem w_X11_ahead_21 {r : ((Int32 ⊕ Nat) × Mem)} {σ : Mem} {ls : Array Slot} {H : Heap} {locs : List Loc} (C : Cx p s m args meth c cX11_ahead (some .int) 5 RX11) (G : Gf E s) (T0 : ∀ x ∈ c.exceptionTable.toList, False) (hT : l.stackTraces = false) (X : Hx E σ s H locs) (hl : lv_has ls 5 []) (h : X11_ahead_21 σ = some r) : W p l e (RX 13 3) s m args below meth c H locs 2 12 (QX E below args s 3 r.1 r.2) (F0 m 21 ls []) := by
  rw [X11_ahead_21] at h
  rw [← Option.some.inj h]
  exact thS13W C G X T0 hT (x := 4) (cls := "java/util/NoSuchElementException") (text := "there is no such thing ahead") (ik := 161) (is := 372) (ic := 165) rfl k_1191 k_130 (by decide +kernel) (by decide +kernel) hl.1 dX11_ahead_21 dX11_ahead_24 dX11_ahead_25 dX11_ahead_28 dX11_ahead_31 (Nat.le_of_ble_eq_true rfl) (Nat.le_of_ble_eq_true rfl) (Nat.le_of_ble_eq_true rfl) (Nat.le_of_ble_eq_true rfl)

set_option maxRecDepth 20000 in
theorem w_X11_ahead {r : ((Int32 ⊕ Nat) × Mem)} {σ : Mem} {x1 : Int32} {x2 : Int32} {x3 : Int32} {ls : Array Slot} {H : Heap} {locs : List Loc} (C : Cx p s m args meth c cX11_ahead (some .int) 5 RX11) (G : Gf E s) (T0 : ∀ x ∈ c.exceptionTable.toList, False) (hT : l.stackTraces = false) (X : Hx E σ s H locs) (hl : lv_has ls 5 [(0, .ref (gB E + 0)), (1, .int x1), (2, .int x2), (3, .int x3)]) (h : X11_ahead x1 x2 x3 σ = some r) : W p l e (RX 13 3) s m args below meth c H locs 0 0 (QX E below args s 3 r.1 r.2) (F0 m 0 ls []) := by
  rw [X11_ahead] at h
  refine lv_aload_n C.1 C.2.1 dX11_ahead_0 rfl (lv_at hl 0 rfl) ?_
  refine lv_iload_n C.1 C.2.1 dX11_ahead_1 rfl (lv_at hl 1 rfl) ?_
  rcases bndx h with ⟨r2, e2, h⟩ | ⟨x2_, e2, h⟩
  · refine axV X (runXV C G X q_X11_needPane k_1164 kp_11 k_1162 (rcX11 G X kd_0) (c_X11_needPane l E hT e2) rfl hl.1 rfl (Nat.le_of_ble_eq_true rfl) ⟨Nat.le_of_ble_eq_true rfl, Nat.le_of_ble_eq_true rfl⟩ ⟨Nat.le_of_ble_eq_true rfl, Nat.le_of_ble_eq_true rfl⟩ dX11_ahead_2) (fun r9 H locs er X => ?_) (fun x9 H locs q9 ce er X hz hv hcl => nomatch er)
    refine lv_iload_n C.1 C.2.1 dX11_ahead_5 rfl (lv_at hl 2 rfl) ?_
    refine lv_iconst (v := 0) C.1 C.2.1 dX11_ahead_6 (by decide) ?_
    refine lv_bipush (v := 60) C.1 C.2.1 dX11_ahead_7 (by decide) ?_
    rcases bndx h with ⟨r9, e9, h⟩ | ⟨x9_, e9, h⟩
    · refine axV X (runXS C G X q_X11_needNumber k_1303 k_1302 (c_X11_needNumber l E hT e9) rfl hl.1 rfl (Nat.le_of_ble_eq_true rfl) ⟨Nat.le_of_ble_eq_true rfl, Nat.le_of_ble_eq_true rfl⟩ ⟨Nat.le_of_ble_eq_true rfl, Nat.le_of_ble_eq_true rfl⟩ dX11_ahead_9) (fun r9 H locs er X => ?_) (fun x9 H locs q9 ce er X hz hv hcl => nomatch er)
      refine lv_iload_n C.1 C.2.1 dX11_ahead_12 rfl (lv_at hl 3 rfl) ?_
      refine lv_if_lt (tgt := 21) C.1 C.2.1 dX11_ahead_13 (by decide) (fun c13 => ?_) (fun c13 => ?_)
      · replace h := ipos c13 h
        exact w_X11_ahead_21 C G T0 hT X (lv_sub hl [] rfl) h
      · replace h := ineg c13 h
        refine lv_iload_n C.1 C.2.1 dX11_ahead_16 rfl (lv_at hl 3 rfl) ?_
        refine lv_iconst (v := 2) C.1 C.2.1 dX11_ahead_17 (by decide) ?_
        refine lv_icmp_le (tgt := 32) C.1 C.2.1 dX11_ahead_18 (by decide) (fun c18 => ?_) (fun c18 => ?_)
        · replace h := ipos c18 h
          refine lv_aload_n C.1 C.2.1 dX11_ahead_32 rfl (lv_at hl 0 rfl) ?_
          refine gfX11 C G X (k := 0) kd_0 9 (v := .ref (gB E + 365)) rfl rfl (by decide) k_414 rfl dX11_ahead_33 ?_
          refine lv_aload_n C.1 C.2.1 dX11_ahead_36 rfl (lv_at hl 0 rfl) ?_
          refine gfX11 C G X (k := 0) kd_0 1 (v := .ref (gB E + 9)) rfl rfl (by decide) k_406 rfl dX11_ahead_37 ?_
          refine lv_aload_n C.1 C.2.1 dX11_ahead_40 rfl (lv_at hl 0 rfl) ?_
          refine gfX11 C G X (k := 0) kd_0 4 (v := .ref (gB E + 72)) rfl rfl (by decide) k_409 rfl dX11_ahead_41 ?_
          refine lv_iload_n C.1 C.2.1 dX11_ahead_44 rfl (lv_at hl 2 rfl) ?_
          refine lv_iconst (v := 0) C.1 C.2.1 dX11_ahead_45 (by decide) ?_
          refine lv_aload_n C.1 C.2.1 dX11_ahead_46 rfl (lv_at hl 0 rfl) ?_
          refine gfX11 C G X (k := 0) kd_0 1 (v := .ref (gB E + 9)) rfl rfl (by decide) k_406 rfl dX11_ahead_47 ?_
          refine gfX7 C G X (k := 9) kd_9 7 (v := .int (σ 9 7)) rfl rfl (by decide) k_228 rfl dX11_ahead_50 ?_
          obtain ⟨σ53, e53, h⟩ := bnd h
          refine afQ X (runV C G X q_X0_after k_1607 k_1608 k_1606 (rcX0 G X kd_365) (c_X0_after l E kd_9 kd_72 e53) rfl hl.1 rfl (Nat.le_of_ble_eq_true rfl) ⟨Nat.le_of_ble_eq_true rfl, Nat.le_of_ble_eq_true rfl⟩ ⟨Nat.le_of_ble_eq_true rfl, Nat.le_of_ble_eq_true rfl⟩ dX11_ahead_53) (fun H locs X => ?_)
          refine lv_astore (lv' := [(4, .ref (gB E + 366)), (0, .ref (gB E + 0)), (1, .int x1), (2, .int x2), (3, .int x3)]) C.1 C.2.1 dX11_ahead_56 hl (by decide) rfl (fun ls hl => ?_)
          refine lv_iload_n C.1 C.2.1 dX11_ahead_58 rfl (lv_at hl 4 rfl) ?_
          refine lv_if_ne (tgt := 72) C.1 C.2.1 dX11_ahead_59 (by decide) (fun c59 => ?_) (fun c59 => ?_)
          · replace h := ineg c59 h
            refine lv_iload_n C.1 C.2.1 dX11_ahead_72 rfl (lv_at hl 4 rfl) ?_
            refine lv_iconst (v := 1) C.1 C.2.1 dX11_ahead_73 (by decide) ?_
            refine lv_icmp_ne (tgt := 92) C.1 C.2.1 dX11_ahead_74 (by decide) (fun c74 => ?_) (fun c74 => ?_)
            · replace h := ineg c74 h
              refine lv_aload C.1 C.2.1 dX11_ahead_92 (lv_at hl 0 rfl) ?_
              refine gfX7 C G X (k := 366) kd_366 11 (v := .ref (gB E + 371)) rfl rfl (by decide) k_243 rfl dX11_ahead_94 ?_
              refine lv_iload_n C.1 C.2.1 dX11_ahead_97 rfl (lv_at hl 2 rfl) ?_
              obtain ⟨r98, e98, h⟩ := bnd h
              refine afI X (runV C G X q_X6_get k_498 k_499 k_1182 (rcX6 G X kd_371) (c_X6_get l E kd_371 e98) rfl hl.1 rfl (Nat.le_of_ble_eq_true rfl) ⟨Nat.le_of_ble_eq_true rfl, Nat.le_of_ble_eq_true rfl⟩ ⟨Nat.le_of_ble_eq_true rfl, Nat.le_of_ble_eq_true rfl⟩ dX11_ahead_98) (fun H locs X => ?_)
              refine W.widen (k := 3) (n := 18) (Nat.le_of_ble_eq_true rfl) (Nat.le_of_ble_eq_true rfl) ?_
              rw [← Option.some.inj h]
              exact vx_ret (rtxI C X dX11_ahead_101)
            · replace h := ipos c74 h
              refine lv_aload C.1 C.2.1 dX11_ahead_77 (lv_at hl 0 rfl) ?_
              refine lv_iload_n C.1 C.2.1 dX11_ahead_79 rfl (lv_at hl 2 rfl) ?_
              obtain ⟨r80, e80, h⟩ := bnd h
              refine afI X (runV C G X q_X7_isBurning k_538 k_539 k_1183 (rcX7 G X kd_366) (c_X7_isBurning l E kd_366 e80) rfl hl.1 rfl (Nat.le_of_ble_eq_true rfl) ⟨Nat.le_of_ble_eq_true rfl, Nat.le_of_ble_eq_true rfl⟩ ⟨Nat.le_of_ble_eq_true rfl, Nat.le_of_ble_eq_true rfl⟩ dX11_ahead_80) (fun H locs X => ?_)
              refine lv_if_eq (tgt := 90) C.1 C.2.1 dX11_ahead_83 (by decide) (fun c83 => ?_) (fun c83 => ?_)
              · replace h := ipos c83 h
                refine lv_iconst (v := 0) C.1 C.2.1 dX11_ahead_90 (by decide) ?_
                refine W.widen (k := 3) (n := 18) (Nat.le_of_ble_eq_true rfl) (Nat.le_of_ble_eq_true rfl) ?_
                rw [← Option.some.inj h]
                exact vx_ret (rtxI C X dX11_ahead_91)
              · replace h := ineg c83 h
                refine lv_iconst (v := 1) C.1 C.2.1 dX11_ahead_86 (by decide) ?_
                refine lv_goto (tgt := 91) C.1 C.2.1 dX11_ahead_87 (by decide) ?_
                refine W.widen (k := 3) (n := 18) (Nat.le_of_ble_eq_true rfl) (Nat.le_of_ble_eq_true rfl) ?_
                rw [← Option.some.inj h]
                exact vx_ret (rtxI C X dX11_ahead_91)
          · replace h := ipos c59 h
            refine lv_aload C.1 C.2.1 dX11_ahead_62 (lv_at hl 0 rfl) ?_
            refine gfX7 C G X (k := 366) kd_366 9 (v := .ref (gB E + 367)) rfl rfl (by decide) k_234 rfl dX11_ahead_64 ?_
            refine lv_iload_n C.1 C.2.1 dX11_ahead_67 rfl (lv_at hl 2 rfl) ?_
            obtain ⟨r68, e68, h⟩ := bnd h
            refine afI X (runV C G X q_X6_get k_498 k_499 k_1182 (rcX6 G X kd_367) (c_X6_get l E kd_367 e68) rfl hl.1 rfl (Nat.le_of_ble_eq_true rfl) ⟨Nat.le_of_ble_eq_true rfl, Nat.le_of_ble_eq_true rfl⟩ ⟨Nat.le_of_ble_eq_true rfl, Nat.le_of_ble_eq_true rfl⟩ dX11_ahead_68) (fun H locs X => ?_)
            refine W.widen (k := 3) (n := 18) (Nat.le_of_ble_eq_true rfl) (Nat.le_of_ble_eq_true rfl) ?_
            rw [← Option.some.inj h]
            exact vx_ret (rtxI C X dX11_ahead_71)
        · replace h := ineg c18 h
          exact w_X11_ahead_21 C G T0 hT X (lv_sub hl [] rfl) h
    · refine axV X (runXS C G X q_X11_needNumber k_1303 k_1302 (c_X11_needNumber l E hT e9) rfl hl.1 rfl (Nat.le_of_ble_eq_true rfl) ⟨Nat.le_of_ble_eq_true rfl, Nat.le_of_ble_eq_true rfl⟩ ⟨Nat.le_of_ble_eq_true rfl, Nat.le_of_ble_eq_true rfl⟩ dX11_ahead_9) (fun r9 H locs er X => nomatch er) (fun x9 H locs q9 ce er X hz hv hcl => ?_)
      rw [← Sum.inr.inj er] at hcl
      rw [← Option.some.inj h]
      exact xout C X T0 hz hv hcl (Nat.le_of_ble_eq_true rfl) (Nat.le_of_ble_eq_true rfl)
  · refine axV X (runXV C G X q_X11_needPane k_1164 kp_11 k_1162 (rcX11 G X kd_0) (c_X11_needPane l E hT e2) rfl hl.1 rfl (Nat.le_of_ble_eq_true rfl) ⟨Nat.le_of_ble_eq_true rfl, Nat.le_of_ble_eq_true rfl⟩ ⟨Nat.le_of_ble_eq_true rfl, Nat.le_of_ble_eq_true rfl⟩ dX11_ahead_2) (fun r9 H locs er X => nomatch er) (fun x9 H locs q9 ce er X hz hv hcl => ?_)
    rw [← Sum.inr.inj er] at hcl
    rw [← Option.some.inj h]
    exact xout C X T0 hz hv hcl (Nat.le_of_ble_eq_true rfl) (Nat.le_of_ble_eq_true rfl)

theorem c_X11_ahead (l : Launch) (E : GE) (hT : l.stackTraces = false) {σ : Mem} {x1 : Int32} {x2 : Int32} {x3 : Int32} {r : ((Int32 ⊕ Nat) × Mem)} (h : X11_ahead x1 x2 x3 σ = some r) : CtX l E yX11_ahead cX11_ahead 5 .int 13 3 [.ref (gB E + 0), .int x1, .int x2, .int x3] σ r.1 r.2 := by
  refine vx_ofW (cc := cX11_ahead) (maxL := 5) (ret := (some .int)) (by decide) rfl ?_
  intro p e s m args below meth c s₁ B hml T0 hv
  obtain ⟨rfl, G, X⟩ := start hv
  have C := cxof B hml
  have hl := lv_entry [.ref (gB E + 0), .int x1, .int x2, .int x3] (n := 5) (Nat.le_of_ble_eq_true rfl)
  rw [lg_entry_eq]
  generalize (lg_sl [.ref (gB E + 0), .int x1, .int x2, .int x3] ++ List.replicate (5 - (lg_sl [.ref (gB E + 0), .int x1, .int x2, .int x3]).length) Slot.unset).toArray = ls at hl ⊢
  exact w_X11_ahead C G T0 hT X hl h

set_option maxRecDepth 20000 in
theorem w_X7_oilOfAll_4 {r : Int32} {σ : Mem} (C : Cx p s m args meth c cX7_oilOfAll (some .int) 3 RX7) (G : Gf E s) : ∀ (f : Nat) {a0 : Nat} {x1 : Int32} {x2 : Int32} {ls : Array Slot} {H : Heap} {locs : List Loc}, Hx E σ s H locs → kd a0 = 2 → lv_has ls 3 [(0, .ref (gB E + a0)), (1, .int x1), (2, .int x2)] → X7_oilOfAll_4 σ f a0 x1 x2 = some r → W p l e (RM 2) s m args below meth c H locs 0 0 (QI E below args s r σ) (F0 m 4 ls []) := by
  intro f
  induction f with
  | zero =>
    intro a0 x1 x2 ls H locs X hk_a0 hl h
    rw [X7_oilOfAll_4] at h
    cases h
  | succ f ih =>
    intro a0 x1 x2 ls H locs X hk_a0 hl h
    rw [X7_oilOfAll_4] at h
    refine lv_iload_n C.1 C.2.1 dX7_oilOfAll_4 rfl (lv_at hl 2 rfl) ?_
    refine lv_aload_n C.1 C.2.1 dX7_oilOfAll_5 rfl (lv_at hl 0 rfl) ?_
    refine gfX7 C G X (k := a0) hk_a0 0 (v := .int (σ a0 0)) rfl rfl (by decide) k_198 rfl dX7_oilOfAll_6 ?_
    refine lv_icmp_ge (tgt := 29) C.1 C.2.1 dX7_oilOfAll_9 (by decide) (fun c9 => ?_) (fun c9 => ?_)
    · replace h := ipos c9 h
      refine lv_iload_n C.1 C.2.1 dX7_oilOfAll_29 rfl (lv_at hl 1 rfl) ?_
      rw [← Option.some.inj h]
      exact rtI C X dX7_oilOfAll_30
    · replace h := ineg c9 h
      refine lv_iload_n C.1 C.2.1 dX7_oilOfAll_12 rfl (lv_at hl 1 rfl) ?_
      refine lv_aload_n C.1 C.2.1 dX7_oilOfAll_13 rfl (lv_at hl 0 rfl) ?_
      refine gfX7 C G X (k := a0) hk_a0 9 (v := .ref (gB E + (a0 + 1))) rfl rfl (by decide) k_232 rfl dX7_oilOfAll_14 ?_
      refine lv_iload_n C.1 C.2.1 dX7_oilOfAll_17 rfl (lv_at hl 2 rfl) ?_
      obtain ⟨r18, e18, h⟩ := bnd h
      refine afI X (runV C G X q_X6_get k_498 k_499 k_515 (rcX6 G X (kf_2_1 hk_a0)) (c_X6_get l E (kf_2_1 hk_a0) e18) rfl hl.1 rfl (Nat.le_of_ble_eq_true rfl) ⟨Nat.le_of_ble_eq_true rfl, Nat.le_of_ble_eq_true rfl⟩ ⟨Nat.le_of_ble_eq_true rfl, Nat.le_of_ble_eq_true rfl⟩ dX7_oilOfAll_18) (fun H locs X => ?_)
      refine lv_iadd C.1 C.2.1 dX7_oilOfAll_21 ?_
      refine lv_istore_n (lv' := [(1, .int (x1 + r18)), (0, .ref (gB E + a0)), (2, .int x2)]) C.1 C.2.1 dX7_oilOfAll_22 rfl hl (by decide) rfl (fun ls hl => ?_)
      refine lv_iinc (v := (x2 + 1)) (lv' := [(2, .int (x2 + 1)), (1, .int (x1 + r18)), (0, .ref (gB E + a0))]) C.1 C.2.1 dX7_oilOfAll_23 hl (k := 2) rfl rfl (by decide) rfl (fun ls hl => ?_)
      refine lv_goto (tgt := 4) C.1 C.2.1 dX7_oilOfAll_26 (by decide) ?_
      exact ih X hk_a0 (lv_sub hl [2, 1, 0] rfl) h

set_option maxRecDepth 20000 in
theorem w_X7_oilOfAll {r : Int32} {σ : Mem} {a0 : Nat} {ls : Array Slot} {H : Heap} {locs : List Loc} (C : Cx p s m args meth c cX7_oilOfAll (some .int) 3 RX7) (G : Gf E s) (X : Hx E σ s H locs) (hk_a0 : kd a0 = 2) (hl : lv_has ls 3 [(0, .ref (gB E + a0))]) (h : X7_oilOfAll σ a0 = some r) : W p l e (RM 2) s m args below meth c H locs 0 0 (QI E below args s r σ) (F0 m 0 ls []) := by
  rw [X7_oilOfAll] at h
  refine lv_iconst (v := 0) C.1 C.2.1 dX7_oilOfAll_0 (by decide) ?_
  refine lv_istore_n (lv' := [(1, .int (0 : Int32)), (0, .ref (gB E + a0))]) C.1 C.2.1 dX7_oilOfAll_1 rfl hl (by decide) rfl (fun ls hl => ?_)
  refine lv_iconst (v := 0) C.1 C.2.1 dX7_oilOfAll_2 (by decide) ?_
  refine lv_istore_n (lv' := [(2, .int (0 : Int32)), (1, .int (0 : Int32)), (0, .ref (gB E + a0))]) C.1 C.2.1 dX7_oilOfAll_3 rfl hl (by decide) rfl (fun ls hl => ?_)
  exact w_X7_oilOfAll_4 C G FU X hk_a0 (lv_sub hl [2, 1, 0] rfl) h

theorem c_X7_oilOfAll (l : Launch) (E : GE) {σ : Mem} {a0 : Nat} (hk_a0 : kd a0 = 2) {r : Int32} (h : X7_oilOfAll σ a0 = some r) : CtI l E yX7_oilOfAll cX7_oilOfAll 3 .int 2 [.ref (gB E + a0)] σ r σ := by
  refine Met.ofW (cc := cX7_oilOfAll) (maxL := 3) (ret := (some .int)) (by decide) rfl ?_
  intro p e s m args below meth c s₁ B hml hv
  obtain ⟨rfl, G, X⟩ := start hv
  have C := cxof B hml
  have hl := lv_entry [.ref (gB E + a0)] (n := 3) (Nat.le_of_ble_eq_true rfl)
  rw [lg_entry_eq]
  generalize (lg_sl [.ref (gB E + a0)] ++ List.replicate (3 - (lg_sl [.ref (gB E + a0)]).length) Slot.unset).toArray = ls at hl ⊢
  exact w_X7_oilOfAll C G X hk_a0 hl h

set_option maxRecDepth 20000 in
theorem w_X11_trial {r : ((Int32 ⊕ Nat) × Mem)} {σ : Mem} {x1 : Int32} {x2 : Int32} {ls : Array Slot} {H : Heap} {locs : List Loc} (C : Cx p s m args meth c cX11_trial (some .int) 4 RX11) (G : Gf E s) (T0 : ∀ x ∈ c.exceptionTable.toList, False) (hT : l.stackTraces = false) (X : Hx E σ s H locs) (hl : lv_has ls 4 [(0, .ref (gB E + 0)), (1, .int x1), (2, .int x2)]) (h : X11_trial x1 x2 σ = some r) : W p l e (RX 13 1) s m args below meth c H locs 0 0 (QX E below args s 1 r.1 r.2) (F0 m 0 ls []) := by
  rw [X11_trial] at h
  refine lv_iload_n C.1 C.2.1 dX11_trial_0 rfl (lv_at hl 1 rfl) ?_
  refine lv_iconst (v := 0) C.1 C.2.1 dX11_trial_1 (by decide) ?_
  refine lv_bipush (v := 60) C.1 C.2.1 dX11_trial_2 (by decide) ?_
  rcases bndx h with ⟨r4, e4, h⟩ | ⟨x4_, e4, h⟩
  · refine axV X (runXS C G X q_X11_needNumber k_1303 k_1302 (c_X11_needNumber l E hT e4) rfl hl.1 rfl (Nat.le_of_ble_eq_true rfl) ⟨Nat.le_of_ble_eq_true rfl, Nat.le_of_ble_eq_true rfl⟩ ⟨Nat.le_of_ble_eq_true rfl, Nat.le_of_ble_eq_true rfl⟩ dX11_trial_4) (fun r9 H locs er X => ?_) (fun x9 H locs q9 ce er X hz hv hcl => nomatch er)
    refine lv_aload_n C.1 C.2.1 dX11_trial_7 rfl (lv_at hl 0 rfl) ?_
    refine gfX11 C G X (k := 0) kd_0 9 (v := .ref (gB E + 365)) rfl rfl (by decide) k_414 rfl dX11_trial_8 ?_
    refine lv_aload_n C.1 C.2.1 dX11_trial_11 rfl (lv_at hl 0 rfl) ?_
    refine gfX11 C G X (k := 0) kd_0 1 (v := .ref (gB E + 9)) rfl rfl (by decide) k_406 rfl dX11_trial_12 ?_
    refine lv_aload_n C.1 C.2.1 dX11_trial_15 rfl (lv_at hl 0 rfl) ?_
    refine gfX11 C G X (k := 0) kd_0 4 (v := .ref (gB E + 72)) rfl rfl (by decide) k_409 rfl dX11_trial_16 ?_
    refine lv_iload_n C.1 C.2.1 dX11_trial_19 rfl (lv_at hl 1 rfl) ?_
    refine lv_iconst (v := 1) C.1 C.2.1 dX11_trial_20 (by decide) ?_
    refine lv_aload_n C.1 C.2.1 dX11_trial_21 rfl (lv_at hl 0 rfl) ?_
    refine gfX11 C G X (k := 0) kd_0 1 (v := .ref (gB E + 9)) rfl rfl (by decide) k_406 rfl dX11_trial_22 ?_
    refine gfX7 C G X (k := 9) kd_9 7 (v := .int (σ 9 7)) rfl rfl (by decide) k_228 rfl dX11_trial_25 ?_
    obtain ⟨σ28, e28, h⟩ := bnd h
    refine afQ X (runV C G X q_X0_after k_1607 k_1608 k_1606 (rcX0 G X kd_365) (c_X0_after l E kd_9 kd_72 e28) rfl hl.1 rfl (Nat.le_of_ble_eq_true rfl) ⟨Nat.le_of_ble_eq_true rfl, Nat.le_of_ble_eq_true rfl⟩ ⟨Nat.le_of_ble_eq_true rfl, Nat.le_of_ble_eq_true rfl⟩ dX11_trial_28) (fun H locs X => ?_)
    refine lv_astore_n (lv' := [(3, .ref (gB E + 366)), (0, .ref (gB E + 0)), (1, .int x1), (2, .int x2)]) C.1 C.2.1 dX11_trial_31 rfl hl (by decide) rfl (fun ls hl => ?_)
    refine lv_iload_n C.1 C.2.1 dX11_trial_32 rfl (lv_at hl 3 rfl) ?_
    refine lv_if_eq (tgt := 43) C.1 C.2.1 dX11_trial_33 (by decide) (fun c33 => ?_) (fun c33 => ?_)
    · replace h := ipos c33 h
      refine lv_aload_n C.1 C.2.1 dX11_trial_43 rfl (lv_at hl 0 rfl) ?_
      refine gfX7 C G X (k := 366) kd_366 8 (v := .int (σ28 366 8)) rfl rfl (by decide) k_231 rfl dX11_trial_44 ?_
      rw [← Option.some.inj h]
      exact vx_ret (rtxI C X dX11_trial_47)
    · replace h := ineg c33 h
      refine lv_aload_n C.1 C.2.1 dX11_trial_36 rfl (lv_at hl 0 rfl) ?_
      obtain ⟨r37, e37, h⟩ := bnd h
      refine afI X (runV C G X q_X7_oilOfAll k_778 k_779 k_777 (rcX7 G X kd_366) (c_X7_oilOfAll l E kd_366 e37) rfl hl.1 rfl (Nat.le_of_ble_eq_true rfl) ⟨Nat.le_of_ble_eq_true rfl, Nat.le_of_ble_eq_true rfl⟩ ⟨Nat.le_of_ble_eq_true rfl, Nat.le_of_ble_eq_true rfl⟩ dX11_trial_37) (fun H locs X => ?_)
      refine lv_goto (tgt := 47) C.1 C.2.1 dX11_trial_40 (by decide) ?_
      rw [← Option.some.inj h]
      exact vx_ret (rtxI C X dX11_trial_47)
  · refine axV X (runXS C G X q_X11_needNumber k_1303 k_1302 (c_X11_needNumber l E hT e4) rfl hl.1 rfl (Nat.le_of_ble_eq_true rfl) ⟨Nat.le_of_ble_eq_true rfl, Nat.le_of_ble_eq_true rfl⟩ ⟨Nat.le_of_ble_eq_true rfl, Nat.le_of_ble_eq_true rfl⟩ dX11_trial_4) (fun r9 H locs er X => nomatch er) (fun x9 H locs q9 ce er X hz hv hcl => ?_)
    rw [← Sum.inr.inj er] at hcl
    rw [← Option.some.inj h]
    exact xout C X T0 hz hv hcl (Nat.le_of_ble_eq_true rfl) (Nat.le_of_ble_eq_true rfl)

theorem c_X11_trial (l : Launch) (E : GE) (hT : l.stackTraces = false) {σ : Mem} {x1 : Int32} {x2 : Int32} {r : ((Int32 ⊕ Nat) × Mem)} (h : X11_trial x1 x2 σ = some r) : CtX l E yX11_trial cX11_trial 4 .int 13 1 [.ref (gB E + 0), .int x1, .int x2] σ r.1 r.2 := by
  refine vx_ofW (cc := cX11_trial) (maxL := 4) (ret := (some .int)) (by decide) rfl ?_
  intro p e s m args below meth c s₁ B hml T0 hv
  obtain ⟨rfl, G, X⟩ := start hv
  have C := cxof B hml
  have hl := lv_entry [.ref (gB E + 0), .int x1, .int x2] (n := 4) (Nat.le_of_ble_eq_true rfl)
  rw [lg_entry_eq]
  generalize (lg_sl [.ref (gB E + 0), .int x1, .int x2] ++ List.replicate (4 - (lg_sl [.ref (gB E + 0), .int x1, .int x2]).length) Slot.unset).toArray = ls at hl ⊢
  exact w_X11_trial C G T0 hT X hl h

set_option maxRecDepth 20000 in
theorem w_X11_span_74 {r : ((Int32 ⊕ Nat) × Mem)} {σ : Mem} {rc21 : Int32 → Int32 → Int32 → Int32 → Mem → Option ((Int32 ⊕ Nat) × Mem)} {x1 : Int32} {x2 : Int32} {x4 : Int32} {y0 : Int32} {ls : Array Slot} {H : Heap} {locs : List Loc} (C : Cx p s m args meth c cX11_span (some .int) 6 RX11) (G : Gf E s) (T0 : ∀ x ∈ c.exceptionTable.toList, False) (hT : l.stackTraces = false) (hr21 : ∀ {x1 : Int32} {x2 : Int32} {x3 : Int32} {x4 : Int32} {σ : Mem} {ls : Array Slot} {H : Heap} {locs : List Loc}, Hx E σ s H locs → lv_has ls 6 [(0, .ref (gB E + 0)), (1, .int x1), (2, .int x2), (3, .int x3), (4, .int x4)] → rc21 x1 x2 x3 x4 σ = some r → W p l e (RX 13 1) s m args below meth c H locs 1 6 (QX E below args s 1 r.1 r.2) (F0 m 21 ls [])) (X : Hx E σ s H locs) (hl : lv_has ls 6 [(0, .ref (gB E + 0)), (1, .int x1), (2, .int x2), (4, .int x4)]) (h : X11_span_74 rc21 x1 x2 x4 y0 σ = some r) : W p l e (RX 13 1) s m args below meth c H locs 1 6 (QX E below args s 1 r.1 r.2) (F0 m 74 ls [.int y0]) := by
  rw [X11_span_74] at h
  refine lv_istore_n (lv' := [(3, .int y0), (0, .ref (gB E + 0)), (1, .int x1), (2, .int x2), (4, .int x4)]) C.1 C.2.1 dX11_span_74 rfl hl (by decide) rfl (fun ls hl => ?_)
  refine lv_iinc (v := (x4 + 1)) (lv' := [(4, .int (x4 + 1)), (3, .int y0), (0, .ref (gB E + 0)), (1, .int x1), (2, .int x2)]) C.1 C.2.1 dX11_span_75 hl (k := 4) rfl rfl (by decide) rfl (fun ls hl => ?_)
  refine lv_goto (tgt := 21) C.1 C.2.1 dX11_span_78 (by decide) ?_
  exact hr21 X (lv_sub hl [2, 3, 4, 1, 0] rfl) h

set_option maxRecDepth 20000 in
theorem w_X11_span_21 {r : ((Int32 ⊕ Nat) × Mem)} (C : Cx p s m args meth c cX11_span (some .int) 6 RX11) (G : Gf E s) (T0 : ∀ x ∈ c.exceptionTable.toList, False) (hT : l.stackTraces = false) : ∀ (f : Nat) {x1 : Int32} {x2 : Int32} {x3 : Int32} {x4 : Int32} {σ : Mem} {ls : Array Slot} {H : Heap} {locs : List Loc}, Hx E σ s H locs → lv_has ls 6 [(0, .ref (gB E + 0)), (1, .int x1), (2, .int x2), (3, .int x3), (4, .int x4)] → X11_span_21 f x1 x2 x3 x4 σ = some r → W p l e (RX 13 1) s m args below meth c H locs 1 6 (QX E below args s 1 r.1 r.2) (F0 m 21 ls []) := by
  intro f
  induction f with
  | zero =>
    intro x1 x2 x3 x4 σ ls H locs X hl h
    rw [X11_span_21] at h
    cases h
  | succ f ih =>
    intro x1 x2 x3 x4 σ ls H locs X hl h
    rw [X11_span_21] at h
    refine lv_iload C.1 C.2.1 dX11_span_21 (lv_at hl 4 rfl) ?_
    refine lv_bipush (v := 6) C.1 C.2.1 dX11_span_23 (by decide) ?_
    refine lv_icmp_gt (tgt := 81) C.1 C.2.1 dX11_span_25 (by decide) (fun c25 => ?_) (fun c25 => ?_)
    · replace h := ipos c25 h
      refine lv_iload_n C.1 C.2.1 dX11_span_81 rfl (lv_at hl 3 rfl) ?_
      rw [← Option.some.inj h]
      exact vx_ret (rtxI C X dX11_span_82)
    · replace h := ineg c25 h
      refine lv_aload_n C.1 C.2.1 dX11_span_28 rfl (lv_at hl 0 rfl) ?_
      refine gfX11 C G X (k := 0) kd_0 9 (v := .ref (gB E + 365)) rfl rfl (by decide) k_414 rfl dX11_span_29 ?_
      refine lv_aload_n C.1 C.2.1 dX11_span_32 rfl (lv_at hl 0 rfl) ?_
      refine gfX11 C G X (k := 0) kd_0 1 (v := .ref (gB E + 9)) rfl rfl (by decide) k_406 rfl dX11_span_33 ?_
      refine lv_aload_n C.1 C.2.1 dX11_span_36 rfl (lv_at hl 0 rfl) ?_
      refine gfX11 C G X (k := 0) kd_0 4 (v := .ref (gB E + 72)) rfl rfl (by decide) k_409 rfl dX11_span_37 ?_
      refine lv_iload_n C.1 C.2.1 dX11_span_40 rfl (lv_at hl 1 rfl) ?_
      refine lv_iconst (v := 1) C.1 C.2.1 dX11_span_41 (by decide) ?_
      refine lv_iload C.1 C.2.1 dX11_span_42 (lv_at hl 4 rfl) ?_
      obtain ⟨σ44, e44, h⟩ := bnd h
      refine afQ X (runV C G X q_X0_after k_1607 k_1608 k_1606 (rcX0 G X kd_365) (c_X0_after l E kd_9 kd_72 e44) rfl hl.1 rfl (Nat.le_of_ble_eq_true rfl) ⟨Nat.le_of_ble_eq_true rfl, Nat.le_of_ble_eq_true rfl⟩ ⟨Nat.le_of_ble_eq_true rfl, Nat.le_of_ble_eq_true rfl⟩ dX11_span_44) (fun H locs X => ?_)
      refine gfX7 C G X (k := 366) kd_366 8 (v := .int (σ44 366 8)) rfl rfl (by decide) k_231 rfl dX11_span_47 ?_
      obtain ⟨r50, e50, h⟩ := bnd h
      refine afI X (runS C G X q_J6_bitCount_0f7a4 k_640 k_1624 (c_J6_bitCount_0f7a4 l E e50) rfl hl.1 rfl (Nat.le_of_ble_eq_true rfl) ⟨Nat.le_of_ble_eq_true rfl, Nat.le_of_ble_eq_true rfl⟩ ⟨Nat.le_of_ble_eq_true rfl, Nat.le_of_ble_eq_true rfl⟩ dX11_span_50) (fun H locs X => ?_)
      refine lv_istore (lv' := [(5, .int r50), (0, .ref (gB E + 0)), (1, .int x1), (2, .int x2), (3, .int x3), (4, .int x4)]) C.1 C.2.1 dX11_span_53 hl (by decide) rfl (fun ls hl => ?_)
      refine lv_iload_n C.1 C.2.1 dX11_span_55 rfl (lv_at hl 3 rfl) ?_
      refine lv_if_eq (tgt := 68) C.1 C.2.1 dX11_span_56 (by decide) (fun c56 => ?_) (fun c56 => ?_)
      · replace h := ipos c56 h
        refine lv_iload_n C.1 C.2.1 dX11_span_68 rfl (lv_at hl 4 rfl) ?_
        refine lv_iload C.1 C.2.1 dX11_span_69 (lv_at hl 0 rfl) ?_
        refine mmin C hl.1 (cells := 1) k_1366 ⟨Nat.le_of_ble_eq_true rfl, Nat.le_of_ble_eq_true rfl, Nat.le_of_ble_eq_true rfl, Nat.le_of_ble_eq_true rfl⟩ dX11_span_71 ?_
        exact w_X11_span_74 C G T0 hT ih X (lv_sub hl [1, 2, 3, 5] rfl) h
      · replace h := ineg c56 h
        refine lv_iload_n C.1 C.2.1 dX11_span_59 rfl (lv_at hl 4 rfl) ?_
        refine lv_iload C.1 C.2.1 dX11_span_60 (lv_at hl 0 rfl) ?_
        refine mmax C hl.1 (cells := 1) k_1625 ⟨Nat.le_of_ble_eq_true rfl, Nat.le_of_ble_eq_true rfl, Nat.le_of_ble_eq_true rfl, Nat.le_of_ble_eq_true rfl⟩ dX11_span_62 ?_
        refine lv_goto (tgt := 74) C.1 C.2.1 dX11_span_65 (by decide) ?_
        exact w_X11_span_74 C G T0 hT ih X (lv_sub hl [1, 2, 3, 5] rfl) h

set_option maxRecDepth 20000 in
theorem w_X11_span_17 {r : ((Int32 ⊕ Nat) × Mem)} {σ : Mem} {x1 : Int32} {x2 : Int32} {y0 : Int32} {ls : Array Slot} {H : Heap} {locs : List Loc} (C : Cx p s m args meth c cX11_span (some .int) 6 RX11) (G : Gf E s) (T0 : ∀ x ∈ c.exceptionTable.toList, False) (hT : l.stackTraces = false) (X : Hx E σ s H locs) (hl : lv_has ls 6 [(0, .ref (gB E + 0)), (1, .int x1), (2, .int x2)]) (h : X11_span_17 x1 x2 y0 σ = some r) : W p l e (RX 13 1) s m args below meth c H locs 1 6 (QX E below args s 1 r.1 r.2) (F0 m 17 ls [.int y0]) := by
  rw [X11_span_17] at h
  refine lv_istore_n (lv' := [(3, .int y0), (0, .ref (gB E + 0)), (1, .int x1), (2, .int x2)]) C.1 C.2.1 dX11_span_17 rfl hl (by decide) rfl (fun ls hl => ?_)
  refine lv_iconst (v := 1) C.1 C.2.1 dX11_span_18 (by decide) ?_
  refine lv_istore (lv' := [(4, .int (1 : Int32)), (3, .int y0), (0, .ref (gB E + 0)), (1, .int x1), (2, .int x2)]) C.1 C.2.1 dX11_span_19 hl (by decide) rfl (fun ls hl => ?_)
  exact w_X11_span_21 C G T0 hT FU X (lv_sub hl [2, 3, 4, 1, 0] rfl) h

set_option maxRecDepth 20000 in
theorem w_X11_span {r : ((Int32 ⊕ Nat) × Mem)} {σ : Mem} {x1 : Int32} {x2 : Int32} {ls : Array Slot} {H : Heap} {locs : List Loc} (C : Cx p s m args meth c cX11_span (some .int) 6 RX11) (G : Gf E s) (T0 : ∀ x ∈ c.exceptionTable.toList, False) (hT : l.stackTraces = false) (X : Hx E σ s H locs) (hl : lv_has ls 6 [(0, .ref (gB E + 0)), (1, .int x1), (2, .int x2)]) (h : X11_span x1 x2 σ = some r) : W p l e (RX 13 1) s m args below meth c H locs 0 0 (QX E below args s 1 r.1 r.2) (F0 m 0 ls []) := by
  rw [X11_span] at h
  refine lv_iload_n C.1 C.2.1 dX11_span_0 rfl (lv_at hl 1 rfl) ?_
  refine lv_iconst (v := 0) C.1 C.2.1 dX11_span_1 (by decide) ?_
  refine lv_bipush (v := 60) C.1 C.2.1 dX11_span_2 (by decide) ?_
  rcases bndx h with ⟨r4, e4, h⟩ | ⟨x4_, e4, h⟩
  · refine axV X (runXS C G X q_X11_needNumber k_1303 k_1302 (c_X11_needNumber l E hT e4) rfl hl.1 rfl (Nat.le_of_ble_eq_true rfl) ⟨Nat.le_of_ble_eq_true rfl, Nat.le_of_ble_eq_true rfl⟩ ⟨Nat.le_of_ble_eq_true rfl, Nat.le_of_ble_eq_true rfl⟩ dX11_span_4) (fun r9 H locs er X => ?_) (fun x9 H locs q9 ce er X hz hv hcl => nomatch er)
    refine lv_iload_n C.1 C.2.1 dX11_span_7 rfl (lv_at hl 2 rfl) ?_
    refine lv_if_eq (tgt := 15) C.1 C.2.1 dX11_span_8 (by decide) (fun c8 => ?_) (fun c8 => ?_)
    · replace h := ipos c8 h
      refine lv_bipush (v := 9) C.1 C.2.1 dX11_span_15 (by decide) ?_
      exact w_X11_span_17 C G T0 hT X (lv_sub hl [0, 1, 2] rfl) h
    · replace h := ineg c8 h
      refine lv_iconst (v := 0) C.1 C.2.1 dX11_span_11 (by decide) ?_
      refine lv_goto (tgt := 17) C.1 C.2.1 dX11_span_12 (by decide) ?_
      exact w_X11_span_17 C G T0 hT X (lv_sub hl [0, 1, 2] rfl) h
  · refine axV X (runXS C G X q_X11_needNumber k_1303 k_1302 (c_X11_needNumber l E hT e4) rfl hl.1 rfl (Nat.le_of_ble_eq_true rfl) ⟨Nat.le_of_ble_eq_true rfl, Nat.le_of_ble_eq_true rfl⟩ ⟨Nat.le_of_ble_eq_true rfl, Nat.le_of_ble_eq_true rfl⟩ dX11_span_4) (fun r9 H locs er X => nomatch er) (fun x9 H locs q9 ce er X hz hv hcl => ?_)
    rw [← Sum.inr.inj er] at hcl
    rw [← Option.some.inj h]
    exact xout C X T0 hz hv hcl (Nat.le_of_ble_eq_true rfl) (Nat.le_of_ble_eq_true rfl)

theorem c_X11_span (l : Launch) (E : GE) (hT : l.stackTraces = false) {σ : Mem} {x1 : Int32} {x2 : Int32} {r : ((Int32 ⊕ Nat) × Mem)} (h : X11_span x1 x2 σ = some r) : CtX l E yX11_span cX11_span 6 .int 13 1 [.ref (gB E + 0), .int x1, .int x2] σ r.1 r.2 := by
  refine vx_ofW (cc := cX11_span) (maxL := 6) (ret := (some .int)) (by decide) rfl ?_
  intro p e s m args below meth c s₁ B hml T0 hv
  obtain ⟨rfl, G, X⟩ := start hv
  have C := cxof B hml
  have hl := lv_entry [.ref (gB E + 0), .int x1, .int x2] (n := 6) (Nat.le_of_ble_eq_true rfl)
  rw [lg_entry_eq]
  generalize (lg_sl [.ref (gB E + 0), .int x1, .int x2] ++ List.replicate (6 - (lg_sl [.ref (gB E + 0), .int x1, .int x2]).length) Slot.unset).toArray = ls at hl ⊢
  exact w_X11_span C G T0 hT X hl h

set_option maxRecDepth 20000 in
theorem w_X7_rows {r : Int32} {σ : Mem} {a0 : Nat} {ls : Array Slot} {H : Heap} {locs : List Loc} (C : Cx p s m args meth c cX7_rows (some .int) 1 RX7) (G : Gf E s) (X : Hx E σ s H locs) (hk_a0 : kd a0 = 2) (hl : lv_has ls 1 [(0, .ref (gB E + a0))]) (h : X7_rows σ a0 = some r) : W p l e (RM 2) s m args below meth c H locs 0 0 (QI E below args s r σ) (F0 m 0 ls []) := by
  rw [X7_rows] at h
  refine lv_aload_n C.1 C.2.1 dX7_rows_0 rfl (lv_at hl 0 rfl) ?_
  refine gfX7 C G X (k := a0) hk_a0 19 (v := .int (σ a0 19)) rfl rfl (by decide) k_262 rfl dX7_rows_1 ?_
  refine lv_bipush (v := 60) C.1 C.2.1 dX7_rows_4 (by decide) ?_
  refine mmin C hl.1 (cells := 0) k_587 ⟨Nat.le_of_ble_eq_true rfl, Nat.le_of_ble_eq_true rfl, Nat.le_of_ble_eq_true rfl, Nat.le_of_ble_eq_true rfl⟩ dX7_rows_6 ?_
  rw [← Option.some.inj h]
  exact rtI C X dX7_rows_9

theorem c_X7_rows (l : Launch) (E : GE) {σ : Mem} {a0 : Nat} (hk_a0 : kd a0 = 2) {r : Int32} (h : X7_rows σ a0 = some r) : CtI l E yX7_rows cX7_rows 1 .int 2 [.ref (gB E + a0)] σ r σ := by
  refine Met.ofW (cc := cX7_rows) (maxL := 1) (ret := (some .int)) (by decide) rfl ?_
  intro p e s m args below meth c s₁ B hml hv
  obtain ⟨rfl, G, X⟩ := start hv
  have C := cxof B hml
  have hl := lv_entry [.ref (gB E + a0)] (n := 1) (Nat.le_of_ble_eq_true rfl)
  rw [lg_entry_eq]
  generalize (lg_sl [.ref (gB E + a0)] ++ List.replicate (1 - (lg_sl [.ref (gB E + a0)]).length) Slot.unset).toArray = ls at hl ⊢
  exact w_X7_rows C G X hk_a0 hl h

set_option maxRecDepth 20000 in
theorem w_X7_readRow {r : Int32} {σ : Mem} {a0 : Nat} {x1 : Int32} {x2 : Int32} {ls : Array Slot} {H : Heap} {locs : List Loc} (C : Cx p s m args meth c cX7_readRow (some .int) 4 RX7) (G : Gf E s) (X : Hx E σ s H locs) (hk_a0 : kd a0 = 2) (hl : lv_has ls 4 [(0, .ref (gB E + a0)), (1, .int x1), (2, .int x2)]) (h : X7_readRow σ a0 x1 x2 = some r) : W p l e (RM 2) s m args below meth c H locs 0 0 (QI E below args s r σ) (F0 m 0 ls []) := by
  rw [X7_readRow] at h
  refine lv_aload_n C.1 C.2.1 dX7_readRow_0 rfl (lv_at hl 0 rfl) ?_
  refine gfX7 C G X (k := a0) hk_a0 18 (v := .ref (gB E + (a0 + 19))) rfl rfl (by decide) k_261 rfl dX7_readRow_1 ?_
  refine lv_aload_n C.1 C.2.1 dX7_readRow_4 rfl (lv_at hl 0 rfl) ?_
  refine gfX7 C G X (k := a0) hk_a0 19 (v := .int (σ a0 19)) rfl rfl (by decide) k_262 rfl dX7_readRow_5 ?_
  refine lv_iconst (v := 1) C.1 C.2.1 dX7_readRow_8 (by decide) ?_
  refine lv_isub C.1 C.2.1 dX7_readRow_9 ?_
  refine lv_iload_n C.1 C.2.1 dX7_readRow_10 rfl (lv_at hl 1 rfl) ?_
  refine lv_isub C.1 C.2.1 dX7_readRow_11 ?_
  refine lv_bipush (v := 60) C.1 C.2.1 dX7_readRow_12 (by decide) ?_
  refine lv_irem C.1 C.2.1 dX7_readRow_14 (by decide) ?_
  obtain ⟨r15, e15, h⟩ := bnd h
  refine afI X (runV C G X q_X6_get k_498 k_499 k_515 (rcX6 G X (kf_2_19 hk_a0)) (c_X6_get l E (kf_2_19 hk_a0) e15) rfl hl.1 rfl (Nat.le_of_ble_eq_true rfl) ⟨Nat.le_of_ble_eq_true rfl, Nat.le_of_ble_eq_true rfl⟩ ⟨Nat.le_of_ble_eq_true rfl, Nat.le_of_ble_eq_true rfl⟩ dX7_readRow_15) (fun H locs X => ?_)
  refine lv_istore_n (lv' := [(3, .int r15), (0, .ref (gB E + a0)), (1, .int x1), (2, .int x2)]) C.1 C.2.1 dX7_readRow_18 rfl hl (by decide) rfl (fun ls hl => ?_)
  refine lv_iload_n C.1 C.2.1 dX7_readRow_19 rfl (lv_at hl 3 rfl) ?_
  by_cases c20_100 : x2 = (0 : Int32)
  · replace h := ipos c20_100 h
    refine lv_tableIn (off := 32) (tgt := 52) C.1 C.2.1 dX7_readRow_20 (by rw [c20_100]; decide) (by rw [c20_100]; decide) (by rw [c20_100]; decide) (by decide) ?_
    refine lv_iload_n C.1 C.2.1 dX7_readRow_52 rfl (lv_at hl 0 rfl) ?_
    refine lv_bipush (v := 14) C.1 C.2.1 dX7_readRow_53 (by decide) ?_
    refine lv_ishr C.1 C.2.1 dX7_readRow_55 ?_
    rw [← Option.some.inj h]
    exact rtI C X dX7_readRow_56
  · replace h := ineg c20_100 h
    have n20_100 := lv_neT c20_100 (a := 0) (by decide)
    by_cases c20_101 : x2 = (1 : Int32)
    · replace h := ipos c20_101 h
      refine lv_tableIn (off := 37) (tgt := 57) C.1 C.2.1 dX7_readRow_20 (by rw [c20_101]; decide) (by rw [c20_101]; decide) (by rw [c20_101]; decide) (by decide) ?_
      refine lv_iload_n C.1 C.2.1 dX7_readRow_57 rfl (lv_at hl 0 rfl) ?_
      refine lv_bipush (v := 9) C.1 C.2.1 dX7_readRow_58 (by decide) ?_
      refine lv_ishr C.1 C.2.1 dX7_readRow_60 ?_
      refine lv_bipush (v := 31) C.1 C.2.1 dX7_readRow_61 (by decide) ?_
      refine lv_iand C.1 C.2.1 dX7_readRow_63 ?_
      rw [← Option.some.inj h]
      exact rtI C X dX7_readRow_64
    · replace h := ineg c20_101 h
      have n20_101 := lv_neT c20_101 (a := 1) (by decide)
      by_cases c20_102 : x2 = (2 : Int32)
      · replace h := ipos c20_102 h
        refine lv_tableIn (off := 45) (tgt := 65) C.1 C.2.1 dX7_readRow_20 (by rw [c20_102]; decide) (by rw [c20_102]; decide) (by rw [c20_102]; decide) (by decide) ?_
        refine lv_iload_n C.1 C.2.1 dX7_readRow_65 rfl (lv_at hl 0 rfl) ?_
        refine lv_bipush (v := 7) C.1 C.2.1 dX7_readRow_66 (by decide) ?_
        refine lv_ishr C.1 C.2.1 dX7_readRow_68 ?_
        refine lv_iconst (v := 3) C.1 C.2.1 dX7_readRow_69 (by decide) ?_
        refine lv_iand C.1 C.2.1 dX7_readRow_70 ?_
        rw [← Option.some.inj h]
        exact rtI C X dX7_readRow_71
      · replace h := ineg c20_102 h
        have n20_102 := lv_neT c20_102 (a := 2) (by decide)
        by_cases c20_103 : x2 = (3 : Int32)
        · replace h := ipos c20_103 h
          refine lv_tableIn (off := 52) (tgt := 72) C.1 C.2.1 dX7_readRow_20 (by rw [c20_103]; decide) (by rw [c20_103]; decide) (by rw [c20_103]; decide) (by decide) ?_
          refine lv_iload_n C.1 C.2.1 dX7_readRow_72 rfl (lv_at hl 0 rfl) ?_
          refine lv_iconst (v := 3) C.1 C.2.1 dX7_readRow_73 (by decide) ?_
          refine lv_ishr C.1 C.2.1 dX7_readRow_74 ?_
          refine lv_bipush (v := 15) C.1 C.2.1 dX7_readRow_75 (by decide) ?_
          refine lv_iand C.1 C.2.1 dX7_readRow_77 ?_
          rw [← Option.some.inj h]
          exact rtI C X dX7_readRow_78
        · replace h := ineg c20_103 h
          have n20_103 := lv_neT c20_103 (a := 3) (by decide)
          refine lv_tableOut (tgt := 79) C.1 C.2.1 dX7_readRow_20 (by omega) (by decide) ?_
          refine lv_iload_n C.1 C.2.1 dX7_readRow_79 rfl (lv_at hl 0 rfl) ?_
          refine lv_bipush (v := 7) C.1 C.2.1 dX7_readRow_80 (by decide) ?_
          refine lv_iand C.1 C.2.1 dX7_readRow_82 ?_
          refine lv_iconst (v := 1) C.1 C.2.1 dX7_readRow_83 (by decide) ?_
          refine lv_isub C.1 C.2.1 dX7_readRow_84 ?_
          rw [← Option.some.inj h]
          exact rtI C X dX7_readRow_85

theorem c_X7_readRow (l : Launch) (E : GE) {σ : Mem} {a0 : Nat} {x1 : Int32} {x2 : Int32} (hk_a0 : kd a0 = 2) {r : Int32} (h : X7_readRow σ a0 x1 x2 = some r) : CtI l E yX7_readRow cX7_readRow 4 .int 2 [.ref (gB E + a0), .int x1, .int x2] σ r σ := by
  refine Met.ofW (cc := cX7_readRow) (maxL := 4) (ret := (some .int)) (by decide) rfl ?_
  intro p e s m args below meth c s₁ B hml hv
  obtain ⟨rfl, G, X⟩ := start hv
  have C := cxof B hml
  have hl := lv_entry [.ref (gB E + a0), .int x1, .int x2] (n := 4) (Nat.le_of_ble_eq_true rfl)
  rw [lg_entry_eq]
  generalize (lg_sl [.ref (gB E + a0), .int x1, .int x2] ++ List.replicate (4 - (lg_sl [.ref (gB E + a0), .int x1, .int x2]).length) Slot.unset).toArray = ls at hl ⊢
  exact w_X7_readRow C G X hk_a0 hl h

set_option maxRecDepth 20000 in
theorem w_X11_led_21 {r : (Int32 ⊕ Nat)} {σ : Mem} (C : Cx p s m args meth c cX11_led (some .int) 6 RX11) (G : Gf E s) (T0 : ∀ x ∈ c.exceptionTable.toList, False) (hT : l.stackTraces = false) : ∀ (f : Nat) {x1 : Int32} {x2 : Int32} {x3 : Int32} {x4 : Int32} {x5 : Int32} {ls : Array Slot} {H : Heap} {locs : List Loc}, Hx E σ s H locs → lv_has ls 6 [(0, .ref (gB E + 0)), (1, .int x1), (2, .int x2), (3, .int x3), (4, .int x4), (5, .int x5)] → X11_led_21 σ f x1 x2 x3 x4 x5 = some r → W p l e (RX 13 1) s m args below meth c H locs 1 6 (QX E below args s 1 r σ) (F0 m 21 ls []) := by
  intro f
  induction f with
  | zero =>
    intro x1 x2 x3 x4 x5 ls H locs X hl h
    rw [X11_led_21] at h
    cases h
  | succ f ih =>
    intro x1 x2 x3 x4 x5 ls H locs X hl h
    rw [X11_led_21] at h
    refine lv_iload C.1 C.2.1 dX11_led_21 (lv_at hl 5 rfl) ?_
    refine lv_if_lt (tgt := 61) C.1 C.2.1 dX11_led_23 (by decide) (fun c23 => ?_) (fun c23 => ?_)
    · replace h := ipos c23 h
      refine lv_iload_n C.1 C.2.1 dX11_led_61 rfl (lv_at hl 2 rfl) ?_
      refine lv_if_eq (tgt := 70) C.1 C.2.1 dX11_led_62 (by decide) (fun c62 => ?_) (fun c62 => ?_)
      · replace h := ipos c62 h
        refine lv_iload_n C.1 C.2.1 dX11_led_70 rfl (lv_at hl 3 rfl) ?_
        rw [← Option.some.inj h]
        exact vx_ret (rtxI C X dX11_led_71)
      · replace h := ineg c62 h
        refine lv_iload C.1 C.2.1 dX11_led_65 (lv_at hl 4 rfl) ?_
        refine lv_goto (tgt := 71) C.1 C.2.1 dX11_led_67 (by decide) ?_
        rw [← Option.some.inj h]
        exact vx_ret (rtxI C X dX11_led_71)
    · replace h := ineg c23 h
      refine lv_aload_n C.1 C.2.1 dX11_led_26 rfl (lv_at hl 0 rfl) ?_
      refine gfX11 C G X (k := 0) kd_0 1 (v := .ref (gB E + 9)) rfl rfl (by decide) k_406 rfl dX11_led_27 ?_
      refine lv_iload C.1 C.2.1 dX11_led_30 (lv_at hl 5 rfl) ?_
      refine lv_iconst (v := 3) C.1 C.2.1 dX11_led_32 (by decide) ?_
      obtain ⟨r33, e33, h⟩ := bnd h
      refine afI X (runV C G X q_X7_readRow k_1634 k_1635 k_1633 (rcX7 G X kd_9) (c_X7_readRow l E kd_9 e33) rfl hl.1 rfl (Nat.le_of_ble_eq_true rfl) ⟨Nat.le_of_ble_eq_true rfl, Nat.le_of_ble_eq_true rfl⟩ ⟨Nat.le_of_ble_eq_true rfl, Nat.le_of_ble_eq_true rfl⟩ dX11_led_33) (fun H locs X => ?_)
      refine lv_iload_n C.1 C.2.1 dX11_led_36 rfl (lv_at hl 1 rfl) ?_
      refine lv_icmp_ne (tgt := 55) C.1 C.2.1 dX11_led_37 (by decide) (fun c37 => ?_) (fun c37 => ?_)
      · replace h := ineg c37 h
        refine lv_iinc (v := (x5 + (-1))) (lv' := [(5, .int (x5 + (-1))), (0, .ref (gB E + 0)), (1, .int x1), (2, .int x2), (3, .int x3), (4, .int x4)]) C.1 C.2.1 dX11_led_55 hl (k := 5) rfl rfl (by decide) rfl (fun ls hl => ?_)
        refine lv_goto (tgt := 21) C.1 C.2.1 dX11_led_58 (by decide) ?_
        exact ih X (lv_sub hl [1, 2, 3, 4, 5, 0] rfl) h
      · replace h := ipos c37 h
        refine lv_iinc (v := (x3 + 1)) (lv' := [(3, .int (x3 + 1)), (0, .ref (gB E + 0)), (1, .int x1), (2, .int x2), (4, .int x4), (5, .int x5)]) C.1 C.2.1 dX11_led_40 hl (k := 3) rfl rfl (by decide) rfl (fun ls hl => ?_)
        refine lv_aload_n C.1 C.2.1 dX11_led_43 rfl (lv_at hl 1 rfl) ?_
        refine gfX11 C G X (k := 0) kd_0 1 (v := .ref (gB E + 9)) rfl rfl (by decide) k_406 rfl dX11_led_44 ?_
        refine lv_iload C.1 C.2.1 dX11_led_47 (lv_at hl 5 rfl) ?_
        refine lv_iconst (v := 0) C.1 C.2.1 dX11_led_49 (by decide) ?_
        obtain ⟨r50, e50, h⟩ := bnd h
        refine afI X (runV C G X q_X7_readRow k_1634 k_1635 k_1633 (rcX7 G X kd_9) (c_X7_readRow l E kd_9 e50) rfl hl.1 rfl (Nat.le_of_ble_eq_true rfl) ⟨Nat.le_of_ble_eq_true rfl, Nat.le_of_ble_eq_true rfl⟩ ⟨Nat.le_of_ble_eq_true rfl, Nat.le_of_ble_eq_true rfl⟩ dX11_led_50) (fun H locs X => ?_)
        refine lv_istore (lv' := [(4, .int r50), (3, .int (x3 + 1)), (0, .ref (gB E + 0)), (1, .int x1), (2, .int x2), (5, .int x5)]) C.1 C.2.1 dX11_led_53 hl (by decide) rfl (fun ls hl => ?_)
        refine lv_iinc (v := (x5 + (-1))) (lv' := [(5, .int (x5 + (-1))), (4, .int r50), (3, .int (x3 + 1)), (0, .ref (gB E + 0)), (1, .int x1), (2, .int x2)]) C.1 C.2.1 dX11_led_55 hl (k := 5) rfl rfl (by decide) rfl (fun ls hl => ?_)
        refine lv_goto (tgt := 21) C.1 C.2.1 dX11_led_58 (by decide) ?_
        exact ih X (lv_sub hl [3, 4, 5, 2, 1, 0] rfl) h

set_option maxRecDepth 20000 in
theorem w_X11_led {r : (Int32 ⊕ Nat)} {σ : Mem} {x1 : Int32} {x2 : Int32} {ls : Array Slot} {H : Heap} {locs : List Loc} (C : Cx p s m args meth c cX11_led (some .int) 6 RX11) (G : Gf E s) (T0 : ∀ x ∈ c.exceptionTable.toList, False) (hT : l.stackTraces = false) (X : Hx E σ s H locs) (hl : lv_has ls 6 [(0, .ref (gB E + 0)), (1, .int x1), (2, .int x2)]) (h : X11_led σ x1 x2 = some r) : W p l e (RX 13 1) s m args below meth c H locs 0 0 (QX E below args s 1 r σ) (F0 m 0 ls []) := by
  rw [X11_led] at h
  refine lv_aload_n C.1 C.2.1 dX11_led_0 rfl (lv_at hl 0 rfl) ?_
  refine lv_iload_n C.1 C.2.1 dX11_led_1 rfl (lv_at hl 1 rfl) ?_
  rcases bndx h with ⟨r2, e2, h⟩ | ⟨x2_, e2, h⟩
  · refine axV X (runXV C G X q_X11_needPane k_1164 kp_11 k_1162 (rcX11 G X kd_0) (c_X11_needPane l E hT e2) rfl hl.1 rfl (Nat.le_of_ble_eq_true rfl) ⟨Nat.le_of_ble_eq_true rfl, Nat.le_of_ble_eq_true rfl⟩ ⟨Nat.le_of_ble_eq_true rfl, Nat.le_of_ble_eq_true rfl⟩ dX11_led_2) (fun r9 H locs er X => ?_) (fun x9 H locs q9 ce er X hz hv hcl => nomatch er)
    refine lv_iconst (v := 0) C.1 C.2.1 dX11_led_5 (by decide) ?_
    refine lv_istore_n (lv' := [(3, .int (0 : Int32)), (0, .ref (gB E + 0)), (1, .int x1), (2, .int x2)]) C.1 C.2.1 dX11_led_6 rfl hl (by decide) rfl (fun ls hl => ?_)
    refine lv_iconst (v := -1) C.1 C.2.1 dX11_led_7 (by decide) ?_
    refine lv_istore (lv' := [(4, .int (-1 : Int32)), (3, .int (0 : Int32)), (0, .ref (gB E + 0)), (1, .int x1), (2, .int x2)]) C.1 C.2.1 dX11_led_8 hl (by decide) rfl (fun ls hl => ?_)
    refine lv_aload_n C.1 C.2.1 dX11_led_10 rfl (lv_at hl 2 rfl) ?_
    refine gfX11 C G X (k := 0) kd_0 1 (v := .ref (gB E + 9)) rfl rfl (by decide) k_406 rfl dX11_led_11 ?_
    obtain ⟨r14, e14, h⟩ := bnd h
    refine afI X (runV C G X q_X7_rows k_791 k_792 k_790 (rcX7 G X kd_9) (c_X7_rows l E kd_9 e14) rfl hl.1 rfl (Nat.le_of_ble_eq_true rfl) ⟨Nat.le_of_ble_eq_true rfl, Nat.le_of_ble_eq_true rfl⟩ ⟨Nat.le_of_ble_eq_true rfl, Nat.le_of_ble_eq_true rfl⟩ dX11_led_14) (fun H locs X => ?_)
    refine lv_iconst (v := 1) C.1 C.2.1 dX11_led_17 (by decide) ?_
    refine lv_isub C.1 C.2.1 dX11_led_18 ?_
    refine lv_istore (lv' := [(5, .int (r14 - (1 : Int32))), (4, .int (-1 : Int32)), (3, .int (0 : Int32)), (0, .ref (gB E + 0)), (1, .int x1), (2, .int x2)]) C.1 C.2.1 dX11_led_19 hl (by decide) rfl (fun ls hl => ?_)
    exact w_X11_led_21 C G T0 hT FU X (lv_sub hl [3, 4, 5, 2, 1, 0] rfl) h
  · refine axV X (runXV C G X q_X11_needPane k_1164 kp_11 k_1162 (rcX11 G X kd_0) (c_X11_needPane l E hT e2) rfl hl.1 rfl (Nat.le_of_ble_eq_true rfl) ⟨Nat.le_of_ble_eq_true rfl, Nat.le_of_ble_eq_true rfl⟩ ⟨Nat.le_of_ble_eq_true rfl, Nat.le_of_ble_eq_true rfl⟩ dX11_led_2) (fun r9 H locs er X => nomatch er) (fun x9 H locs q9 ce er X hz hv hcl => ?_)
    rw [← Sum.inr.inj er] at hcl
    rw [← Option.some.inj h]
    exact xout C X T0 hz hv hcl (Nat.le_of_ble_eq_true rfl) (Nat.le_of_ble_eq_true rfl)

theorem c_X11_led (l : Launch) (E : GE) (hT : l.stackTraces = false) {σ : Mem} {x1 : Int32} {x2 : Int32} {r : (Int32 ⊕ Nat)} (h : X11_led σ x1 x2 = some r) : CtX l E yX11_led cX11_led 6 .int 13 1 [.ref (gB E + 0), .int x1, .int x2] σ r σ := by
  refine vx_ofW (cc := cX11_led) (maxL := 6) (ret := (some .int)) (by decide) rfl ?_
  intro p e s m args below meth c s₁ B hml T0 hv
  obtain ⟨rfl, G, X⟩ := start hv
  have C := cxof B hml
  have hl := lv_entry [.ref (gB E + 0), .int x1, .int x2] (n := 6) (Nat.le_of_ble_eq_true rfl)
  rw [lg_entry_eq]
  generalize (lg_sl [.ref (gB E + 0), .int x1, .int x2] ++ List.replicate (6 - (lg_sl [.ref (gB E + 0), .int x1, .int x2]).length) Slot.unset).toArray = ls at hl ⊢
  exact w_X11_led C G T0 hT X hl h

set_option maxRecDepth 20000 in
theorem w_X11_log_9 {r : (Int32 ⊕ Nat)} {σ : Mem} {ls : Array Slot} {H : Heap} {locs : List Loc} (C : Cx p s m args meth c cX11_log (some .int) 3 RX11) (G : Gf E s) (T0 : ∀ x ∈ c.exceptionTable.toList, False) (hT : l.stackTraces = false) (X : Hx E σ s H locs) (hl : lv_has ls 3 []) (h : X11_log_9 σ = some r) : W p l e (RX 12 1) s m args below meth c H locs 0 0 (QX E below args s 1 r σ) (F0 m 9 ls []) := by
  rw [X11_log_9] at h
  rw [← Option.some.inj h]
  exact thS13W C G X T0 hT (x := 4) (cls := "java/util/NoSuchElementException") (text := "a row of the log has no such thing") (ik := 161) (is := 398) (ic := 165) rfl k_1191 k_130 (by decide +kernel) (by decide +kernel) hl.1 dX11_log_9 dX11_log_12 dX11_log_13 dX11_log_16 dX11_log_19 (Nat.le_of_ble_eq_true rfl) (Nat.le_of_ble_eq_true rfl) (Nat.le_of_ble_eq_true rfl) (Nat.le_of_ble_eq_true rfl)

set_option maxRecDepth 20000 in
theorem w_X11_log {r : (Int32 ⊕ Nat)} {σ : Mem} {x1 : Int32} {x2 : Int32} {ls : Array Slot} {H : Heap} {locs : List Loc} (C : Cx p s m args meth c cX11_log (some .int) 3 RX11) (G : Gf E s) (T0 : ∀ x ∈ c.exceptionTable.toList, False) (hT : l.stackTraces = false) (X : Hx E σ s H locs) (hl : lv_has ls 3 [(0, .ref (gB E + 0)), (1, .int x1), (2, .int x2)]) (h : X11_log σ x1 x2 = some r) : W p l e (RX 12 1) s m args below meth c H locs 0 0 (QX E below args s 1 r σ) (F0 m 0 ls []) := by
  rw [X11_log] at h
  refine lv_iload_n C.1 C.2.1 dX11_log_0 rfl (lv_at hl 2 rfl) ?_
  refine lv_if_lt (tgt := 9) C.1 C.2.1 dX11_log_1 (by decide) (fun c1 => ?_) (fun c1 => ?_)
  · replace h := ipos c1 h
    exact w_X11_log_9 C G T0 hT X (lv_sub hl [] rfl) h
  · replace h := ineg c1 h
    refine lv_iload_n C.1 C.2.1 dX11_log_4 rfl (lv_at hl 2 rfl) ?_
    refine lv_iconst (v := 4) C.1 C.2.1 dX11_log_5 (by decide) ?_
    refine lv_icmp_le (tgt := 20) C.1 C.2.1 dX11_log_6 (by decide) (fun c6 => ?_) (fun c6 => ?_)
    · replace h := ipos c6 h
      refine lv_iload_n C.1 C.2.1 dX11_log_20 rfl (lv_at hl 1 rfl) ?_
      refine lv_if_lt (tgt := 35) C.1 C.2.1 dX11_log_21 (by decide) (fun c21 => ?_) (fun c21 => ?_)
      · replace h := ipos c21 h
        refine lv_bipush (v := -2) C.1 C.2.1 dX11_log_35 (by decide) ?_
        refine W.widen (k := 1) (n := 6) (Nat.le_of_ble_eq_true rfl) (Nat.le_of_ble_eq_true rfl) ?_
        rw [← Option.some.inj h]
        exact vx_ret (rtxI C X dX11_log_37)
      · replace h := ineg c21 h
        refine lv_iload_n C.1 C.2.1 dX11_log_24 rfl (lv_at hl 1 rfl) ?_
        refine lv_aload_n C.1 C.2.1 dX11_log_25 rfl (lv_at hl 0 rfl) ?_
        refine gfX11 C G X (k := 0) kd_0 1 (v := .ref (gB E + 9)) rfl rfl (by decide) k_406 rfl dX11_log_26 ?_
        obtain ⟨r29, e29, h⟩ := bnd h
        refine afI X (runV C G X q_X7_rows k_791 k_792 k_790 (rcX7 G X kd_9) (c_X7_rows l E kd_9 e29) rfl hl.1 rfl (Nat.le_of_ble_eq_true rfl) ⟨Nat.le_of_ble_eq_true rfl, Nat.le_of_ble_eq_true rfl⟩ ⟨Nat.le_of_ble_eq_true rfl, Nat.le_of_ble_eq_true rfl⟩ dX11_log_29) (fun H locs X => ?_)
        refine lv_icmp_lt (tgt := 38) C.1 C.2.1 dX11_log_32 (by decide) (fun c32 => ?_) (fun c32 => ?_)
        · replace h := ipos c32 h
          refine lv_aload_n C.1 C.2.1 dX11_log_38 rfl (lv_at hl 0 rfl) ?_
          refine gfX11 C G X (k := 0) kd_0 1 (v := .ref (gB E + 9)) rfl rfl (by decide) k_406 rfl dX11_log_39 ?_
          refine lv_iload_n C.1 C.2.1 dX11_log_42 rfl (lv_at hl 1 rfl) ?_
          refine lv_iload_n C.1 C.2.1 dX11_log_43 rfl (lv_at hl 2 rfl) ?_
          obtain ⟨r44, e44, h⟩ := bnd h
          refine afI X (runV C G X q_X7_readRow k_1634 k_1635 k_1633 (rcX7 G X kd_9) (c_X7_readRow l E kd_9 e44) rfl hl.1 rfl (Nat.le_of_ble_eq_true rfl) ⟨Nat.le_of_ble_eq_true rfl, Nat.le_of_ble_eq_true rfl⟩ ⟨Nat.le_of_ble_eq_true rfl, Nat.le_of_ble_eq_true rfl⟩ dX11_log_44) (fun H locs X => ?_)
          refine W.widen (k := 1) (n := 6) (Nat.le_of_ble_eq_true rfl) (Nat.le_of_ble_eq_true rfl) ?_
          rw [← Option.some.inj h]
          exact vx_ret (rtxI C X dX11_log_47)
        · replace h := ineg c32 h
          refine lv_bipush (v := -2) C.1 C.2.1 dX11_log_35 (by decide) ?_
          refine W.widen (k := 1) (n := 6) (Nat.le_of_ble_eq_true rfl) (Nat.le_of_ble_eq_true rfl) ?_
          rw [← Option.some.inj h]
          exact vx_ret (rtxI C X dX11_log_37)
    · replace h := ineg c6 h
      exact w_X11_log_9 C G T0 hT X (lv_sub hl [] rfl) h

theorem c_X11_log (l : Launch) (E : GE) (hT : l.stackTraces = false) {σ : Mem} {x1 : Int32} {x2 : Int32} {r : (Int32 ⊕ Nat)} (h : X11_log σ x1 x2 = some r) : CtX l E yX11_log cX11_log 3 .int 12 1 [.ref (gB E + 0), .int x1, .int x2] σ r σ := by
  refine vx_ofW (cc := cX11_log) (maxL := 3) (ret := (some .int)) (by decide) rfl ?_
  intro p e s m args below meth c s₁ B hml T0 hv
  obtain ⟨rfl, G, X⟩ := start hv
  have C := cxof B hml
  have hl := lv_entry [.ref (gB E + 0), .int x1, .int x2] (n := 3) (Nat.le_of_ble_eq_true rfl)
  rw [lg_entry_eq]
  generalize (lg_sl [.ref (gB E + 0), .int x1, .int x2] ++ List.replicate (3 - (lg_sl [.ref (gB E + 0), .int x1, .int x2]).length) Slot.unset).toArray = ls at hl ⊢
  exact w_X11_log C G T0 hT X hl h

set_option maxRecDepth 20000 in
theorem w_X11_seed {r : (Int32 × Mem)} {σ : Mem} {x1 : Int32} {ls : Array Slot} {H : Heap} {locs : List Loc} (C : Cx p s m args meth c cX11_seed (some .int) 3 RX11) (G : Gf E s) (X : Hx E σ s H locs) (hl : lv_has ls 3 [(0, .ref (gB E + 0)), (1, .int x1)]) (h : X11_seed x1 σ = some r) : W p l e (RM 1) s m args below meth c H locs 0 0 (QI E below args s r.1 r.2) (F0 m 0 ls []) := by
  rw [X11_seed] at h
  refine lv_aload_n C.1 C.2.1 dX11_seed_0 rfl (lv_at hl 0 rfl) ?_
  refine gfX11 C G X (k := 0) kd_0 1 (v := .ref (gB E + 9)) rfl rfl (by decide) k_406 rfl dX11_seed_1 ?_
  refine gfX7 C G X (k := 9) kd_9 7 (v := .int (σ 9 7)) rfl rfl (by decide) k_228 rfl dX11_seed_4 ?_
  refine lv_istore_n (lv' := [(2, .int (σ 9 7)), (0, .ref (gB E + 0)), (1, .int x1)]) C.1 C.2.1 dX11_seed_7 rfl hl (by decide) rfl (fun ls hl => ?_)
  refine lv_aload_n C.1 C.2.1 dX11_seed_8 rfl (lv_at hl 1 rfl) ?_
  refine gfX11 C G X (k := 0) kd_0 1 (v := .ref (gB E + 9)) rfl rfl (by decide) k_406 rfl dX11_seed_9 ?_
  refine lv_iload_n C.1 C.2.1 dX11_seed_12 rfl (lv_at hl 2 rfl) ?_
  obtain ⟨σ13, e13, h⟩ := bnd h
  refine pfX7 C G X (k := 9) kd_9 7 (x := x1) (ty := .int) rfl rfl (Nat.le_of_ble_eq_true rfl) (by decide) k_228 rfl rfl (by decide +kernel) rfl rfl dX11_seed_13 (fun H locs X => ?_)
  replace X := pu_x e13 X
  refine lv_iload_n C.1 C.2.1 dX11_seed_16 rfl (lv_at hl 0 rfl) ?_
  rw [← Option.some.inj h]
  exact rtI C X dX11_seed_17

theorem c_X11_seed (l : Launch) (E : GE) {σ : Mem} {x1 : Int32} {r : (Int32 × Mem)} (h : X11_seed x1 σ = some r) : CtI l E yX11_seed cX11_seed 3 .int 1 [.ref (gB E + 0), .int x1] σ r.1 r.2 := by
  refine Met.ofW (cc := cX11_seed) (maxL := 3) (ret := (some .int)) (by decide) rfl ?_
  intro p e s m args below meth c s₁ B hml hv
  obtain ⟨rfl, G, X⟩ := start hv
  have C := cxof B hml
  have hl := lv_entry [.ref (gB E + 0), .int x1] (n := 3) (Nat.le_of_ble_eq_true rfl)
  rw [lg_entry_eq]
  generalize (lg_sl [.ref (gB E + 0), .int x1] ++ List.replicate (3 - (lg_sl [.ref (gB E + 0), .int x1]).length) Slot.unset).toArray = ls at hl ⊢
  exact w_X11_seed C G X hl h

set_option maxRecDepth 20000 in
theorem w_X2_recall {r : (Int32 × Mem)} {σ : Mem} {a1 : Nat} {ls : Array Slot} {H : Heap} {locs : List Loc} (C : Cx p s m args meth c cX2_recall (some .boolean) 4 RX2) (G : Gf E s) (X : Hx E σ s H locs) (hk_a1 : kd a1 = 2) (hl : lv_has ls 4 [(0, .ref (gB E + 111)), (1, .ref (gB E + a1))]) (h : X2_recall a1 σ = some r) : W p l e (RM 4) s m args below meth c H locs 0 0 (QI E below args s r.1 r.2) (F0 m 0 ls []) := by
  rw [X2_recall] at h
  refine lv_aload_n C.1 C.2.1 dX2_recall_0 rfl (lv_at hl 0 rfl) ?_
  refine gfX2 C G X (k := 111) kd_111 1 (v := .int (σ 111 1)) rfl rfl (by decide) k_350 rfl dX2_recall_1 ?_
  refine lv_bipush (v := 12) C.1 C.2.1 dX2_recall_4 (by decide) ?_
  refine lv_iadd C.1 C.2.1 dX2_recall_6 ?_
  refine lv_iconst (v := 1) C.1 C.2.1 dX2_recall_7 (by decide) ?_
  refine lv_isub C.1 C.2.1 dX2_recall_8 ?_
  refine lv_bipush (v := 12) C.1 C.2.1 dX2_recall_9 (by decide) ?_
  refine lv_irem C.1 C.2.1 dX2_recall_11 (by decide) ?_
  obtain ⟨v12, e12, h⟩ := bnd h
  rw [Option.some.inj e12]
  refine lv_istore_n (lv' := [(2, .int v12), (0, .ref (gB E + 111)), (1, .ref (gB E + a1))]) C.1 C.2.1 dX2_recall_12 rfl hl (by decide) rfl (fun ls hl => ?_)
  refine lv_aload_n C.1 C.2.1 dX2_recall_13 rfl (lv_at hl 1 rfl) ?_
  refine lv_iload_n C.1 C.2.1 dX2_recall_14 rfl (lv_at hl 0 rfl) ?_
  obtain ⟨r15, e15, h⟩ := bnd h
  refine afQ X (runV C G X q_X2_slotAt k_752 kp_4 k_750 (rcX2 G X kd_111) (c_X2_slotAt l E e15) rfl hl.1 rfl (Nat.le_of_ble_eq_true rfl) ⟨Nat.le_of_ble_eq_true rfl, Nat.le_of_ble_eq_true rfl⟩ ⟨Nat.le_of_ble_eq_true rfl, Nat.le_of_ble_eq_true rfl⟩ dX2_recall_15) (fun H locs X => ?_)
  refine lq_astore_n (lv' := [(3, oV E r15), (2, .int v12), (0, .ref (gB E + 111)), (1, .ref (gB E + a1))]) C.1 C.2.1 dX2_recall_18 rfl hl (by decide) rfl (fun ls hl => ?_)
  refine lv_aload_n C.1 C.2.1 dX2_recall_19 rfl (lv_at hl 2 rfl) ?_
  refine gfX2 C G X (k := 111) kd_111 2 (v := .int (σ 111 2)) rfl rfl (by decide) k_351 rfl dX2_recall_20 ?_
  refine lv_if_le (tgt := 30) C.1 C.2.1 dX2_recall_23 (by decide) (fun c23 => ?_) (fun c23 => ?_)
  · replace h := ipos c23 h
    refine lv_iconst (v := 0) C.1 C.2.1 dX2_recall_30 (by decide) ?_
    obtain ⟨u31, z31, h⟩ := bnd h
    rw [← Option.some.inj h]
    exact rtZ C X (gb_s z31) dX2_recall_31
  · replace h := ineg c23 h
    refine lq_aload_n C.1 C.2.1 dX2_recall_26 rfl (lv_at hl 0 rfl) ?_
    cases r15 with
    | none =>
      refine lv_ifnonnullN C.1 C.2.1 dX2_recall_27 ?_
      refine lv_iconst (v := 0) C.1 C.2.1 dX2_recall_30 (by decide) ?_
      obtain ⟨u31, z31, h⟩ := bnd h
      rw [← Option.some.inj h]
      exact rtZ C X (gb_s z31) dX2_recall_31
    | some r27 =>
      obtain ⟨u27, z27, h⟩ := bnd h
      have hk_r27 := gk2_s z27
      refine lv_ifnonnull (tgt := 32) C.1 C.2.1 dX2_recall_27 (by decide) ?_
      refine lv_aload_n C.1 C.2.1 dX2_recall_32 rfl (lv_at hl 3 rfl) ?_
      refine lv_aload_n C.1 C.2.1 dX2_recall_33 rfl (lv_at hl 0 rfl) ?_
      obtain ⟨σ34, e34, h⟩ := bnd h
      refine afV X (runV C G X q_X7_copyFrom k_471 k_472 k_754 (rcX7 G X hk_a1) (c_X7_copyFrom l E hk_a1 hk_r27 e34) rfl hl.1 rfl (Nat.le_of_ble_eq_true rfl) ⟨Nat.le_of_ble_eq_true rfl, Nat.le_of_ble_eq_true rfl⟩ ⟨Nat.le_of_ble_eq_true rfl, Nat.le_of_ble_eq_true rfl⟩ dX2_recall_34) (fun H locs X => ?_)
      refine lv_aload_n C.1 C.2.1 dX2_recall_37 rfl (lv_at hl 2 rfl) ?_
      refine lv_iload_n C.1 C.2.1 dX2_recall_38 rfl (lv_at hl 1 rfl) ?_
      obtain ⟨σ39, e39, h⟩ := bnd h
      refine pfX2 C G X (k := 111) kd_111 1 (x := v12) (ty := .int) rfl rfl (Nat.le_of_ble_eq_true rfl) (by decide) k_350 rfl rfl (by decide +kernel) rfl rfl dX2_recall_39 (fun H locs X => ?_)
      replace X := pu_x e39 X
      refine lv_aload_n C.1 C.2.1 dX2_recall_42 rfl (lv_at hl 2 rfl) ?_
      refine lv_dup C.1 C.2.1 dX2_recall_43 rfl ?_
      refine gfX2 C G X (k := 111) kd_111 2 (v := .int (σ39 111 2)) rfl rfl (by decide) k_351 rfl dX2_recall_44 ?_
      refine lv_iconst (v := 1) C.1 C.2.1 dX2_recall_47 (by decide) ?_
      refine lv_isub C.1 C.2.1 dX2_recall_48 ?_
      obtain ⟨σ49, e49, h⟩ := bnd h
      refine pfX2 C G X (k := 111) kd_111 2 (x := ((σ39 111 2) - (1 : Int32))) (ty := .int) rfl rfl (Nat.le_of_ble_eq_true rfl) (by decide) k_351 rfl rfl (by decide +kernel) rfl rfl dX2_recall_49 (fun H locs X => ?_)
      replace X := pu_x e49 X
      refine lv_iconst (v := 1) C.1 C.2.1 dX2_recall_52 (by decide) ?_
      obtain ⟨u53, z53, h⟩ := bnd h
      rw [← Option.some.inj h]
      exact rtZ C X (gb_s z53) dX2_recall_53

theorem c_X2_recall (l : Launch) (E : GE) {σ : Mem} {a1 : Nat} (hk_a1 : kd a1 = 2) {r : (Int32 × Mem)} (h : X2_recall a1 σ = some r) : CtI l E yX2_recall cX2_recall 4 .boolean 4 [.ref (gB E + 111), .ref (gB E + a1)] σ r.1 r.2 := by
  refine Met.ofW (cc := cX2_recall) (maxL := 4) (ret := (some .boolean)) (by decide) rfl ?_
  intro p e s m args below meth c s₁ B hml hv
  obtain ⟨rfl, G, X⟩ := start hv
  have C := cxof B hml
  have hl := lv_entry [.ref (gB E + 111), .ref (gB E + a1)] (n := 4) (Nat.le_of_ble_eq_true rfl)
  rw [lg_entry_eq]
  generalize (lg_sl [.ref (gB E + 111), .ref (gB E + a1)] ++ List.replicate (4 - (lg_sl [.ref (gB E + 111), .ref (gB E + a1)]).length) Slot.unset).toArray = ls at hl ⊢
  exact w_X2_recall C G X hk_a1 hl h

set_option maxRecDepth 20000 in
theorem w_X11_undo {r : (Int32 × Mem)} {σ : Mem} {ls : Array Slot} {H : Heap} {locs : List Loc} (C : Cx p s m args meth c cX11_undo (some .boolean) 1 RX11) (G : Gf E s) (X : Hx E σ s H locs) (hl : lv_has ls 1 [(0, .ref (gB E + 0))]) (h : X11_undo σ = some r) : W p l e (RM 5) s m args below meth c H locs 0 0 (QI E below args s r.1 r.2) (F0 m 0 ls []) := by
  rw [X11_undo] at h
  refine lv_aload_n C.1 C.2.1 dX11_undo_0 rfl (lv_at hl 0 rfl) ?_
  refine gfX11 C G X (k := 0) kd_0 8 (v := .ref (gB E + 111)) rfl rfl (by decide) k_413 rfl dX11_undo_1 ?_
  refine lv_aload_n C.1 C.2.1 dX11_undo_4 rfl (lv_at hl 0 rfl) ?_
  refine gfX11 C G X (k := 0) kd_0 1 (v := .ref (gB E + 9)) rfl rfl (by decide) k_406 rfl dX11_undo_5 ?_
  obtain ⟨r8, σ8, e8, h⟩ := bnd2 h
  refine afI (r0 := r8) (σ' := σ8) X (runV C G X q_X2_recall k_747 k_748 k_746 (rcX2 G X kd_111) (c_X2_recall l E kd_9 e8) rfl hl.1 rfl (Nat.le_of_ble_eq_true rfl) ⟨Nat.le_of_ble_eq_true rfl, Nat.le_of_ble_eq_true rfl⟩ ⟨Nat.le_of_ble_eq_true rfl, Nat.le_of_ble_eq_true rfl⟩ dX11_undo_8) (fun H locs X => ?_)
  obtain ⟨u11, z11, h⟩ := bnd h
  rw [← Option.some.inj h]
  exact rtZ C X (gb_s z11) dX11_undo_11

theorem c_X11_undo (l : Launch) (E : GE) {σ : Mem} {r : (Int32 × Mem)} (h : X11_undo σ = some r) : CtI l E yX11_undo cX11_undo 1 .boolean 5 [.ref (gB E + 0)] σ r.1 r.2 := by
  refine Met.ofW (cc := cX11_undo) (maxL := 1) (ret := (some .boolean)) (by decide) rfl ?_
  intro p e s m args below meth c s₁ B hml hv
  obtain ⟨rfl, G, X⟩ := start hv
  have C := cxof B hml
  have hl := lv_entry [.ref (gB E + 0)] (n := 1) (Nat.le_of_ble_eq_true rfl)
  rw [lg_entry_eq]
  generalize (lg_sl [.ref (gB E + 0)] ++ List.replicate (1 - (lg_sl [.ref (gB E + 0)]).length) Slot.unset).toArray = ls at hl ⊢
  exact w_X11_undo C G X hl h

set_option maxRecDepth 20000 in
theorem w_X11_image {r : Mem} {σ : Mem} {ls : Array Slot} {H : Heap} {locs : List Loc} (C : Cx p s m args meth c cX11_image none 1 RX11) (G : Gf E s) (X : Hx E σ s H locs) (hl : lv_has ls 1 [(0, .ref (gB E + 0))]) (h : X11_image σ = some r) : W p l e (RM 4) s m args below meth c H locs 0 0 (QV E below args s r) (F0 m 0 ls []) := by
  rw [X11_image] at h
  refine lv_aload_n C.1 C.2.1 dX11_image_0 rfl (lv_at hl 0 rfl) ?_
  refine gfX11 C G X (k := 0) kd_0 3 (v := .ref (gB E + 51)) rfl rfl (by decide) k_408 rfl dX11_image_1 ?_
  refine lv_aload_n C.1 C.2.1 dX11_image_4 rfl (lv_at hl 0 rfl) ?_
  refine gfX11 C G X (k := 0) kd_0 1 (v := .ref (gB E + 9)) rfl rfl (by decide) k_406 rfl dX11_image_5 ?_
  obtain ⟨σ8, e8, h⟩ := bnd h
  refine afV X (runV C G X q_X7_copyFrom k_471 k_472 k_759 (rcX7 G X kd_51) (c_X7_copyFrom l E kd_51 kd_9 e8) rfl hl.1 rfl (Nat.le_of_ble_eq_true rfl) ⟨Nat.le_of_ble_eq_true rfl, Nat.le_of_ble_eq_true rfl⟩ ⟨Nat.le_of_ble_eq_true rfl, Nat.le_of_ble_eq_true rfl⟩ dX11_image_8) (fun H locs X => ?_)
  refine lv_aload_n C.1 C.2.1 dX11_image_11 rfl (lv_at hl 0 rfl) ?_
  refine gfX11 C G X (k := 0) kd_0 6 (v := .ref (gB E + 98)) rfl rfl (by decide) k_411 rfl dX11_image_12 ?_
  refine lv_aload_n C.1 C.2.1 dX11_image_15 rfl (lv_at hl 0 rfl) ?_
  refine gfX11 C G X (k := 0) kd_0 4 (v := .ref (gB E + 72)) rfl rfl (by decide) k_409 rfl dX11_image_16 ?_
  obtain ⟨σ19, e19, h⟩ := bnd h
  refine afV X (runV C G X q_X3_copyFrom k_761 k_762 k_760 (rcX3 G X kd_98) (c_X3_copyFrom l E kd_98 kd_72 e19) rfl hl.1 rfl (Nat.le_of_ble_eq_true rfl) ⟨Nat.le_of_ble_eq_true rfl, Nat.le_of_ble_eq_true rfl⟩ ⟨Nat.le_of_ble_eq_true rfl, Nat.le_of_ble_eq_true rfl⟩ dX11_image_19) (fun H locs X => ?_)
  refine lv_aload_n C.1 C.2.1 dX11_image_22 rfl (lv_at hl 0 rfl) ?_
  refine lv_iconst (v := 1) C.1 C.2.1 dX11_image_23 (by decide) ?_
  obtain ⟨u24, z24, h⟩ := bnd h
  obtain ⟨σ24, e24, h⟩ := bnd h
  refine pfX11 C G X (k := 0) kd_0 7 (x := (1 : Int32)) (ty := .boolean) rfl rfl (Nat.le_of_ble_eq_true rfl) (by decide) k_412 rfl rfl (by decide +kernel) (gb_s z24).1 (gb_s z24).2 dX11_image_24 (fun H locs X => ?_)
  replace X := pu_x e24 X
  rw [← Option.some.inj h]
  exact rtV C X dX11_image_27

theorem c_X11_image (l : Launch) (E : GE) {σ : Mem} {r : Mem} (h : X11_image σ = some r) : CtV l E yX11_image cX11_image 1 4 [.ref (gB E + 0)] σ r := by
  refine Met.ofW (cc := cX11_image) (maxL := 1) (ret := none) (by decide) rfl ?_
  intro p e s m args below meth c s₁ B hml hv
  obtain ⟨rfl, G, X⟩ := start hv
  have C := cxof B hml
  have hl := lv_entry [.ref (gB E + 0)] (n := 1) (Nat.le_of_ble_eq_true rfl)
  rw [lg_entry_eq]
  generalize (lg_sl [.ref (gB E + 0)] ++ List.replicate (1 - (lg_sl [.ref (gB E + 0)]).length) Slot.unset).toArray = ls at hl ⊢
  exact w_X11_image C G X hl h

set_option maxRecDepth 20000 in
theorem w_X11_back {r : (Int32 × Mem)} {σ : Mem} {ls : Array Slot} {H : Heap} {locs : List Loc} (C : Cx p s m args meth c cX11_back (some .boolean) 1 RX11) (G : Gf E s) (X : Hx E σ s H locs) (hl : lv_has ls 1 [(0, .ref (gB E + 0))]) (h : X11_back σ = some r) : W p l e (RM 4) s m args below meth c H locs 0 0 (QI E below args s r.1 r.2) (F0 m 0 ls []) := by
  rw [X11_back] at h
  refine lv_aload_n C.1 C.2.1 dX11_back_0 rfl (lv_at hl 0 rfl) ?_
  refine gfX11 C G X (k := 0) kd_0 7 (v := .int (σ 0 7)) rfl rfl (by decide) k_412 rfl dX11_back_1 ?_
  refine lv_if_ne (tgt := 9) C.1 C.2.1 dX11_back_4 (by decide) (fun c4 => ?_) (fun c4 => ?_)
  · replace h := ineg c4 h
    refine lv_aload_n C.1 C.2.1 dX11_back_9 rfl (lv_at hl 0 rfl) ?_
    refine gfX11 C G X (k := 0) kd_0 1 (v := .ref (gB E + 9)) rfl rfl (by decide) k_406 rfl dX11_back_10 ?_
    refine lv_aload_n C.1 C.2.1 dX11_back_13 rfl (lv_at hl 0 rfl) ?_
    refine gfX11 C G X (k := 0) kd_0 3 (v := .ref (gB E + 51)) rfl rfl (by decide) k_408 rfl dX11_back_14 ?_
    obtain ⟨σ17, e17, h⟩ := bnd h
    refine afV X (runV C G X q_X7_copyFrom k_471 k_472 k_759 (rcX7 G X kd_9) (c_X7_copyFrom l E kd_9 kd_51 e17) rfl hl.1 rfl (Nat.le_of_ble_eq_true rfl) ⟨Nat.le_of_ble_eq_true rfl, Nat.le_of_ble_eq_true rfl⟩ ⟨Nat.le_of_ble_eq_true rfl, Nat.le_of_ble_eq_true rfl⟩ dX11_back_17) (fun H locs X => ?_)
    refine lv_aload_n C.1 C.2.1 dX11_back_20 rfl (lv_at hl 0 rfl) ?_
    refine gfX11 C G X (k := 0) kd_0 4 (v := .ref (gB E + 72)) rfl rfl (by decide) k_409 rfl dX11_back_21 ?_
    refine lv_aload_n C.1 C.2.1 dX11_back_24 rfl (lv_at hl 0 rfl) ?_
    refine gfX11 C G X (k := 0) kd_0 6 (v := .ref (gB E + 98)) rfl rfl (by decide) k_411 rfl dX11_back_25 ?_
    obtain ⟨σ28, e28, h⟩ := bnd h
    refine afV X (runV C G X q_X3_copyFrom k_761 k_762 k_760 (rcX3 G X kd_72) (c_X3_copyFrom l E kd_72 kd_98 e28) rfl hl.1 rfl (Nat.le_of_ble_eq_true rfl) ⟨Nat.le_of_ble_eq_true rfl, Nat.le_of_ble_eq_true rfl⟩ ⟨Nat.le_of_ble_eq_true rfl, Nat.le_of_ble_eq_true rfl⟩ dX11_back_28) (fun H locs X => ?_)
    refine lv_aload_n C.1 C.2.1 dX11_back_31 rfl (lv_at hl 0 rfl) ?_
    refine gfX11 C G X (k := 0) kd_0 8 (v := .ref (gB E + 111)) rfl rfl (by decide) k_413 rfl dX11_back_32 ?_
    obtain ⟨σ35, e35, h⟩ := bnd h
    refine afV X (runV C G X q_X2_forget k_770 k_771 k_769 (rcX2 G X kd_111) (c_X2_forget l E e35) rfl hl.1 rfl (Nat.le_of_ble_eq_true rfl) ⟨Nat.le_of_ble_eq_true rfl, Nat.le_of_ble_eq_true rfl⟩ ⟨Nat.le_of_ble_eq_true rfl, Nat.le_of_ble_eq_true rfl⟩ dX11_back_35) (fun H locs X => ?_)
    refine lv_iconst (v := 1) C.1 C.2.1 dX11_back_38 (by decide) ?_
    obtain ⟨u39, z39, h⟩ := bnd h
    rw [← Option.some.inj h]
    exact rtZ C X (gb_s z39) dX11_back_39
  · replace h := ipos c4 h
    refine lv_iconst (v := 0) C.1 C.2.1 dX11_back_7 (by decide) ?_
    obtain ⟨u8, z8, h⟩ := bnd h
    rw [← Option.some.inj h]
    exact rtZ C X (gb_s z8) dX11_back_8

theorem c_X11_back (l : Launch) (E : GE) {σ : Mem} {r : (Int32 × Mem)} (h : X11_back σ = some r) : CtI l E yX11_back cX11_back 1 .boolean 4 [.ref (gB E + 0)] σ r.1 r.2 := by
  refine Met.ofW (cc := cX11_back) (maxL := 1) (ret := (some .boolean)) (by decide) rfl ?_
  intro p e s m args below meth c s₁ B hml hv
  obtain ⟨rfl, G, X⟩ := start hv
  have C := cxof B hml
  have hl := lv_entry [.ref (gB E + 0)] (n := 1) (Nat.le_of_ble_eq_true rfl)
  rw [lg_entry_eq]
  generalize (lg_sl [.ref (gB E + 0)] ++ List.replicate (1 - (lg_sl [.ref (gB E + 0)]).length) Slot.unset).toArray = ls at hl ⊢
  exact w_X11_back C G X hl h

set_option maxRecDepth 20000 in
theorem w_X7_openWays_4 {r : Int32} {σ : Mem} (C : Cx p s m args meth c cX7_openWays (some .int) 3 RX7) (G : Gf E s) : ∀ (f : Nat) {a0 : Nat} {x1 : Int32} {x2 : Int32} {ls : Array Slot} {H : Heap} {locs : List Loc}, Hx E σ s H locs → kd a0 = 2 → lv_has ls 3 [(0, .ref (gB E + a0)), (1, .int x1), (2, .int x2)] → X7_openWays_4 σ f a0 x1 x2 = some r → W p l e (RM 2) s m args below meth c H locs 0 0 (QI E below args s r σ) (F0 m 4 ls []) := by
  intro f
  induction f with
  | zero =>
    intro a0 x1 x2 ls H locs X hk_a0 hl h
    rw [X7_openWays_4] at h
    cases h
  | succ f ih =>
    intro a0 x1 x2 ls H locs X hk_a0 hl h
    rw [X7_openWays_4] at h
    refine lv_iload_n C.1 C.2.1 dX7_openWays_4 rfl (lv_at hl 2 rfl) ?_
    refine lv_aload_n C.1 C.2.1 dX7_openWays_5 rfl (lv_at hl 0 rfl) ?_
    refine gfX7 C G X (k := a0) hk_a0 0 (v := .int (σ a0 0)) rfl rfl (by decide) k_198 rfl dX7_openWays_6 ?_
    refine lv_icmp_ge (tgt := 32) C.1 C.2.1 dX7_openWays_9 (by decide) (fun c9 => ?_) (fun c9 => ?_)
    · replace h := ipos c9 h
      refine lv_iload_n C.1 C.2.1 dX7_openWays_32 rfl (lv_at hl 1 rfl) ?_
      refine lv_iconst (v := 2) C.1 C.2.1 dX7_openWays_33 (by decide) ?_
      refine lv_idiv C.1 C.2.1 dX7_openWays_34 (by decide) ?_
      rw [← Option.some.inj h]
      exact rtI C X dX7_openWays_35
    · replace h := ineg c9 h
      refine lv_iload_n C.1 C.2.1 dX7_openWays_12 rfl (lv_at hl 1 rfl) ?_
      refine lv_aload_n C.1 C.2.1 dX7_openWays_13 rfl (lv_at hl 0 rfl) ?_
      refine gfX7 C G X (k := a0) hk_a0 12 (v := .ref (gB E + (a0 + 7))) rfl rfl (by decide) k_245 rfl dX7_openWays_14 ?_
      refine lv_iload_n C.1 C.2.1 dX7_openWays_17 rfl (lv_at hl 2 rfl) ?_
      obtain ⟨r18, e18, h⟩ := bnd h
      refine afI X (runV C G X q_X6_get k_498 k_499 k_515 (rcX6 G X (kf_2_7 hk_a0)) (c_X6_get l E (kf_2_7 hk_a0) e18) rfl hl.1 rfl (Nat.le_of_ble_eq_true rfl) ⟨Nat.le_of_ble_eq_true rfl, Nat.le_of_ble_eq_true rfl⟩ ⟨Nat.le_of_ble_eq_true rfl, Nat.le_of_ble_eq_true rfl⟩ dX7_openWays_18) (fun H locs X => ?_)
      obtain ⟨r21, e21, h⟩ := bnd h
      refine afI X (runS C G X q_J6_bitCount_0f7a4 k_640 k_789 (c_J6_bitCount_0f7a4 l E e21) rfl hl.1 rfl (Nat.le_of_ble_eq_true rfl) ⟨Nat.le_of_ble_eq_true rfl, Nat.le_of_ble_eq_true rfl⟩ ⟨Nat.le_of_ble_eq_true rfl, Nat.le_of_ble_eq_true rfl⟩ dX7_openWays_21) (fun H locs X => ?_)
      refine lv_iadd C.1 C.2.1 dX7_openWays_24 ?_
      refine lv_istore_n (lv' := [(1, .int (x1 + r21)), (0, .ref (gB E + a0)), (2, .int x2)]) C.1 C.2.1 dX7_openWays_25 rfl hl (by decide) rfl (fun ls hl => ?_)
      refine lv_iinc (v := (x2 + 1)) (lv' := [(2, .int (x2 + 1)), (1, .int (x1 + r21)), (0, .ref (gB E + a0))]) C.1 C.2.1 dX7_openWays_26 hl (k := 2) rfl rfl (by decide) rfl (fun ls hl => ?_)
      refine lv_goto (tgt := 4) C.1 C.2.1 dX7_openWays_29 (by decide) ?_
      exact ih X hk_a0 (lv_sub hl [2, 1, 0] rfl) h

set_option maxRecDepth 20000 in
theorem w_X7_openWays {r : Int32} {σ : Mem} {a0 : Nat} {ls : Array Slot} {H : Heap} {locs : List Loc} (C : Cx p s m args meth c cX7_openWays (some .int) 3 RX7) (G : Gf E s) (X : Hx E σ s H locs) (hk_a0 : kd a0 = 2) (hl : lv_has ls 3 [(0, .ref (gB E + a0))]) (h : X7_openWays σ a0 = some r) : W p l e (RM 2) s m args below meth c H locs 0 0 (QI E below args s r σ) (F0 m 0 ls []) := by
  rw [X7_openWays] at h
  refine lv_iconst (v := 0) C.1 C.2.1 dX7_openWays_0 (by decide) ?_
  refine lv_istore_n (lv' := [(1, .int (0 : Int32)), (0, .ref (gB E + a0))]) C.1 C.2.1 dX7_openWays_1 rfl hl (by decide) rfl (fun ls hl => ?_)
  refine lv_iconst (v := 0) C.1 C.2.1 dX7_openWays_2 (by decide) ?_
  refine lv_istore_n (lv' := [(2, .int (0 : Int32)), (1, .int (0 : Int32)), (0, .ref (gB E + a0))]) C.1 C.2.1 dX7_openWays_3 rfl hl (by decide) rfl (fun ls hl => ?_)
  exact w_X7_openWays_4 C G FU X hk_a0 (lv_sub hl [2, 1, 0] rfl) h

theorem c_X7_openWays (l : Launch) (E : GE) {σ : Mem} {a0 : Nat} (hk_a0 : kd a0 = 2) {r : Int32} (h : X7_openWays σ a0 = some r) : CtI l E yX7_openWays cX7_openWays 3 .int 2 [.ref (gB E + a0)] σ r σ := by
  refine Met.ofW (cc := cX7_openWays) (maxL := 3) (ret := (some .int)) (by decide) rfl ?_
  intro p e s m args below meth c s₁ B hml hv
  obtain ⟨rfl, G, X⟩ := start hv
  have C := cxof B hml
  have hl := lv_entry [.ref (gB E + a0)] (n := 3) (Nat.le_of_ble_eq_true rfl)
  rw [lg_entry_eq]
  generalize (lg_sl [.ref (gB E + a0)] ++ List.replicate (3 - (lg_sl [.ref (gB E + a0)]).length) Slot.unset).toArray = ls at hl ⊢
  exact w_X7_openWays C G X hk_a0 hl h

set_option maxRecDepth 20000 in
theorem w_X11_count {r : Int32} {σ : Mem} {x1 : Int32} {ls : Array Slot} {H : Heap} {locs : List Loc} (C : Cx p s m args meth c cX11_count (some .int) 2 RX11) (G : Gf E s) (X : Hx E σ s H locs) (hl : lv_has ls 2 [(0, .ref (gB E + 0)), (1, .int x1)]) (h : X11_count σ x1 = some r) : W p l e (RM 3) s m args below meth c H locs 0 0 (QI E below args s r σ) (F0 m 0 ls []) := by
  rw [X11_count] at h
  refine lv_iload_n C.1 C.2.1 dX11_count_0 rfl (lv_at hl 1 rfl) ?_
  by_cases c1_100 : x1 = (0 : Int32)
  · replace h := ipos c1_100 h
    refine lv_tableIn (off := 67) (tgt := 68) C.1 C.2.1 dX11_count_1 (by rw [c1_100]; decide) (by rw [c1_100]; decide) (by rw [c1_100]; decide) (by decide) ?_
    refine lv_aload_n C.1 C.2.1 dX11_count_68 rfl (lv_at hl 0 rfl) ?_
    refine gfX11 C G X (k := 0) kd_0 1 (v := .ref (gB E + 9)) rfl rfl (by decide) k_406 rfl dX11_count_69 ?_
    refine gfX7 C G X (k := 9) kd_9 0 (v := .int (σ 9 0)) rfl rfl (by decide) k_203 rfl dX11_count_72 ?_
    rw [← Option.some.inj h]
    exact rtI C X dX11_count_75
  · replace h := ineg c1_100 h
    have n1_100 := lv_neT c1_100 (a := 0) (by decide)
    by_cases c1_101 : x1 = (1 : Int32)
    · replace h := ipos c1_101 h
      refine lv_tableIn (off := 75) (tgt := 76) C.1 C.2.1 dX11_count_1 (by rw [c1_101]; decide) (by rw [c1_101]; decide) (by rw [c1_101]; decide) (by decide) ?_
      refine lv_aload_n C.1 C.2.1 dX11_count_76 rfl (lv_at hl 0 rfl) ?_
      refine gfX11 C G X (k := 0) kd_0 1 (v := .ref (gB E + 9)) rfl rfl (by decide) k_406 rfl dX11_count_77 ?_
      refine gfX7 C G X (k := 9) kd_9 1 (v := .int (σ 9 1)) rfl rfl (by decide) k_208 rfl dX11_count_80 ?_
      rw [← Option.some.inj h]
      exact rtI C X dX11_count_83
    · replace h := ineg c1_101 h
      have n1_101 := lv_neT c1_101 (a := 1) (by decide)
      by_cases c1_102 : x1 = (2 : Int32)
      · replace h := ipos c1_102 h
        refine lv_tableIn (off := 83) (tgt := 84) C.1 C.2.1 dX11_count_1 (by rw [c1_102]; decide) (by rw [c1_102]; decide) (by rw [c1_102]; decide) (by decide) ?_
        refine lv_aload_n C.1 C.2.1 dX11_count_84 rfl (lv_at hl 0 rfl) ?_
        refine gfX11 C G X (k := 0) kd_0 1 (v := .ref (gB E + 9)) rfl rfl (by decide) k_406 rfl dX11_count_85 ?_
        refine gfX7 C G X (k := 9) kd_9 2 (v := .int (σ 9 2)) rfl rfl (by decide) k_210 rfl dX11_count_88 ?_
        rw [← Option.some.inj h]
        exact rtI C X dX11_count_91
      · replace h := ineg c1_102 h
        have n1_102 := lv_neT c1_102 (a := 2) (by decide)
        by_cases c1_103 : x1 = (3 : Int32)
        · replace h := ipos c1_103 h
          refine lv_tableIn (off := 91) (tgt := 92) C.1 C.2.1 dX11_count_1 (by rw [c1_103]; decide) (by rw [c1_103]; decide) (by rw [c1_103]; decide) (by decide) ?_
          refine lv_aload_n C.1 C.2.1 dX11_count_92 rfl (lv_at hl 0 rfl) ?_
          refine gfX11 C G X (k := 0) kd_0 4 (v := .ref (gB E + 72)) rfl rfl (by decide) k_409 rfl dX11_count_93 ?_
          refine gfX3 C G X (k := 72) kd_72 0 (v := .int (σ 72 0)) rfl rfl (by decide) k_315 rfl dX11_count_96 ?_
          rw [← Option.some.inj h]
          exact rtI C X dX11_count_99
        · replace h := ineg c1_103 h
          have n1_103 := lv_neT c1_103 (a := 3) (by decide)
          by_cases c1_104 : x1 = (4 : Int32)
          · replace h := ipos c1_104 h
            refine lv_tableIn (off := 99) (tgt := 100) C.1 C.2.1 dX11_count_1 (by rw [c1_104]; decide) (by rw [c1_104]; decide) (by rw [c1_104]; decide) (by decide) ?_
            refine lv_aload_n C.1 C.2.1 dX11_count_100 rfl (lv_at hl 0 rfl) ?_
            refine gfX11 C G X (k := 0) kd_0 1 (v := .ref (gB E + 9)) rfl rfl (by decide) k_406 rfl dX11_count_101 ?_
            refine gfX7 C G X (k := 9) kd_9 3 (v := .int (σ 9 3)) rfl rfl (by decide) k_214 rfl dX11_count_104 ?_
            rw [← Option.some.inj h]
            exact rtI C X dX11_count_107
          · replace h := ineg c1_104 h
            have n1_104 := lv_neT c1_104 (a := 4) (by decide)
            by_cases c1_105 : x1 = (5 : Int32)
            · replace h := ipos c1_105 h
              refine lv_tableIn (off := 107) (tgt := 108) C.1 C.2.1 dX11_count_1 (by rw [c1_105]; decide) (by rw [c1_105]; decide) (by rw [c1_105]; decide) (by decide) ?_
              refine lv_aload_n C.1 C.2.1 dX11_count_108 rfl (lv_at hl 0 rfl) ?_
              refine gfX11 C G X (k := 0) kd_0 1 (v := .ref (gB E + 9)) rfl rfl (by decide) k_406 rfl dX11_count_109 ?_
              refine gfX7 C G X (k := 9) kd_9 4 (v := .int (σ 9 4)) rfl rfl (by decide) k_217 rfl dX11_count_112 ?_
              rw [← Option.some.inj h]
              exact rtI C X dX11_count_115
            · replace h := ineg c1_105 h
              have n1_105 := lv_neT c1_105 (a := 5) (by decide)
              by_cases c1_106 : x1 = (6 : Int32)
              · replace h := ipos c1_106 h
                refine lv_tableIn (off := 115) (tgt := 116) C.1 C.2.1 dX11_count_1 (by rw [c1_106]; decide) (by rw [c1_106]; decide) (by rw [c1_106]; decide) (by decide) ?_
                refine lv_aload_n C.1 C.2.1 dX11_count_116 rfl (lv_at hl 0 rfl) ?_
                refine gfX11 C G X (k := 0) kd_0 1 (v := .ref (gB E + 9)) rfl rfl (by decide) k_406 rfl dX11_count_117 ?_
                refine gfX7 C G X (k := 9) kd_9 5 (v := .int (σ 9 5)) rfl rfl (by decide) k_221 rfl dX11_count_120 ?_
                rw [← Option.some.inj h]
                exact rtI C X dX11_count_123
              · replace h := ineg c1_106 h
                have n1_106 := lv_neT c1_106 (a := 6) (by decide)
                by_cases c1_107 : x1 = (7 : Int32)
                · replace h := ipos c1_107 h
                  refine lv_tableIn (off := 123) (tgt := 124) C.1 C.2.1 dX11_count_1 (by rw [c1_107]; decide) (by rw [c1_107]; decide) (by rw [c1_107]; decide) (by decide) ?_
                  refine lv_aload_n C.1 C.2.1 dX11_count_124 rfl (lv_at hl 0 rfl) ?_
                  refine gfX11 C G X (k := 0) kd_0 1 (v := .ref (gB E + 9)) rfl rfl (by decide) k_406 rfl dX11_count_125 ?_
                  refine gfX7 C G X (k := 9) kd_9 6 (v := .int (σ 9 6)) rfl rfl (by decide) k_225 rfl dX11_count_128 ?_
                  refine lv_if_eq (tgt := 138) C.1 C.2.1 dX11_count_131 (by decide) (fun c131 => ?_) (fun c131 => ?_)
                  · replace h := ipos c131 h
                    refine lv_iconst (v := 0) C.1 C.2.1 dX11_count_138 (by decide) ?_
                    rw [← Option.some.inj h]
                    exact rtI C X dX11_count_139
                  · replace h := ineg c131 h
                    refine lv_iconst (v := 1) C.1 C.2.1 dX11_count_134 (by decide) ?_
                    refine lv_goto (tgt := 139) C.1 C.2.1 dX11_count_135 (by decide) ?_
                    rw [← Option.some.inj h]
                    exact rtI C X dX11_count_139
                · replace h := ineg c1_107 h
                  have n1_107 := lv_neT c1_107 (a := 7) (by decide)
                  by_cases c1_108 : x1 = (8 : Int32)
                  · replace h := ipos c1_108 h
                    refine lv_tableIn (off := 139) (tgt := 140) C.1 C.2.1 dX11_count_1 (by rw [c1_108]; decide) (by rw [c1_108]; decide) (by rw [c1_108]; decide) (by decide) ?_
                    refine lv_aload_n C.1 C.2.1 dX11_count_140 rfl (lv_at hl 0 rfl) ?_
                    refine gfX11 C G X (k := 0) kd_0 1 (v := .ref (gB E + 9)) rfl rfl (by decide) k_406 rfl dX11_count_141 ?_
                    obtain ⟨r144, e144, h⟩ := bnd h
                    refine afI X (runV C G X q_X7_oilOfAll k_778 k_779 k_777 (rcX7 G X kd_9) (c_X7_oilOfAll l E kd_9 e144) rfl hl.1 rfl (Nat.le_of_ble_eq_true rfl) ⟨Nat.le_of_ble_eq_true rfl, Nat.le_of_ble_eq_true rfl⟩ ⟨Nat.le_of_ble_eq_true rfl, Nat.le_of_ble_eq_true rfl⟩ dX11_count_144) (fun H locs X => ?_)
                    rw [← Option.some.inj h]
                    exact rtI C X dX11_count_147
                  · replace h := ineg c1_108 h
                    have n1_108 := lv_neT c1_108 (a := 8) (by decide)
                    by_cases c1_109 : x1 = (9 : Int32)
                    · replace h := ipos c1_109 h
                      refine lv_tableIn (off := 147) (tgt := 148) C.1 C.2.1 dX11_count_1 (by rw [c1_109]; decide) (by rw [c1_109]; decide) (by rw [c1_109]; decide) (by decide) ?_
                      refine lv_aload_n C.1 C.2.1 dX11_count_148 rfl (lv_at hl 0 rfl) ?_
                      refine gfX11 C G X (k := 0) kd_0 1 (v := .ref (gB E + 9)) rfl rfl (by decide) k_406 rfl dX11_count_149 ?_
                      obtain ⟨r152, e152, h⟩ := bnd h
                      refine afI X (runV C G X q_X7_litByAll k_782 k_783 k_781 (rcX7 G X kd_9) (c_X7_litByAll l E kd_9 e152) rfl hl.1 rfl (Nat.le_of_ble_eq_true rfl) ⟨Nat.le_of_ble_eq_true rfl, Nat.le_of_ble_eq_true rfl⟩ ⟨Nat.le_of_ble_eq_true rfl, Nat.le_of_ble_eq_true rfl⟩ dX11_count_152) (fun H locs X => ?_)
                      rw [← Option.some.inj h]
                      exact rtI C X dX11_count_155
                    · replace h := ineg c1_109 h
                      have n1_109 := lv_neT c1_109 (a := 9) (by decide)
                      by_cases c1_110 : x1 = (10 : Int32)
                      · replace h := ipos c1_110 h
                        refine lv_tableIn (off := 155) (tgt := 156) C.1 C.2.1 dX11_count_1 (by rw [c1_110]; decide) (by rw [c1_110]; decide) (by rw [c1_110]; decide) (by decide) ?_
                        refine lv_aload_n C.1 C.2.1 dX11_count_156 rfl (lv_at hl 0 rfl) ?_
                        refine gfX11 C G X (k := 0) kd_0 1 (v := .ref (gB E + 9)) rfl rfl (by decide) k_406 rfl dX11_count_157 ?_
                        obtain ⟨r160, e160, h⟩ := bnd h
                        refine afI X (runV C G X q_X7_openWays k_786 k_787 k_785 (rcX7 G X kd_9) (c_X7_openWays l E kd_9 e160) rfl hl.1 rfl (Nat.le_of_ble_eq_true rfl) ⟨Nat.le_of_ble_eq_true rfl, Nat.le_of_ble_eq_true rfl⟩ ⟨Nat.le_of_ble_eq_true rfl, Nat.le_of_ble_eq_true rfl⟩ dX11_count_160) (fun H locs X => ?_)
                        rw [← Option.some.inj h]
                        exact rtI C X dX11_count_163
                      · replace h := ineg c1_110 h
                        have n1_110 := lv_neT c1_110 (a := 10) (by decide)
                        by_cases c1_111 : x1 = (11 : Int32)
                        · replace h := ipos c1_111 h
                          refine lv_tableIn (off := 163) (tgt := 164) C.1 C.2.1 dX11_count_1 (by rw [c1_111]; decide) (by rw [c1_111]; decide) (by rw [c1_111]; decide) (by decide) ?_
                          refine lv_aload_n C.1 C.2.1 dX11_count_164 rfl (lv_at hl 0 rfl) ?_
                          refine gfX11 C G X (k := 0) kd_0 1 (v := .ref (gB E + 9)) rfl rfl (by decide) k_406 rfl dX11_count_165 ?_
                          obtain ⟨r168, e168, h⟩ := bnd h
                          refine afI X (runV C G X q_X7_rows k_791 k_792 k_790 (rcX7 G X kd_9) (c_X7_rows l E kd_9 e168) rfl hl.1 rfl (Nat.le_of_ble_eq_true rfl) ⟨Nat.le_of_ble_eq_true rfl, Nat.le_of_ble_eq_true rfl⟩ ⟨Nat.le_of_ble_eq_true rfl, Nat.le_of_ble_eq_true rfl⟩ dX11_count_168) (fun H locs X => ?_)
                          rw [← Option.some.inj h]
                          exact rtI C X dX11_count_171
                        · replace h := ineg c1_111 h
                          have n1_111 := lv_neT c1_111 (a := 11) (by decide)
                          by_cases c1_112 : x1 = (12 : Int32)
                          · replace h := ipos c1_112 h
                            refine lv_tableIn (off := 171) (tgt := 172) C.1 C.2.1 dX11_count_1 (by rw [c1_112]; decide) (by rw [c1_112]; decide) (by rw [c1_112]; decide) (by decide) ?_
                            refine lv_aload_n C.1 C.2.1 dX11_count_172 rfl (lv_at hl 0 rfl) ?_
                            refine gfX11 C G X (k := 0) kd_0 8 (v := .ref (gB E + 111)) rfl rfl (by decide) k_413 rfl dX11_count_173 ?_
                            refine gfX2 C G X (k := 111) kd_111 2 (v := .int (σ 111 2)) rfl rfl (by decide) k_352 rfl dX11_count_176 ?_
                            rw [← Option.some.inj h]
                            exact rtI C X dX11_count_179
                          · replace h := ineg c1_112 h
                            have n1_112 := lv_neT c1_112 (a := 12) (by decide)
                            refine lv_tableOut (tgt := 180) C.1 C.2.1 dX11_count_1 (by omega) (by decide) ?_
                            refine lv_iconst (v := -1) C.1 C.2.1 dX11_count_180 (by decide) ?_
                            rw [← Option.some.inj h]
                            exact rtI C X dX11_count_181

theorem c_X11_count (l : Launch) (E : GE) {σ : Mem} {x1 : Int32} {r : Int32} (h : X11_count σ x1 = some r) : CtI l E yX11_count cX11_count 2 .int 3 [.ref (gB E + 0), .int x1] σ r σ := by
  refine Met.ofW (cc := cX11_count) (maxL := 2) (ret := (some .int)) (by decide) rfl ?_
  intro p e s m args below meth c s₁ B hml hv
  obtain ⟨rfl, G, X⟩ := start hv
  have C := cxof B hml
  have hl := lv_entry [.ref (gB E + 0), .int x1] (n := 2) (Nat.le_of_ble_eq_true rfl)
  rw [lg_entry_eq]
  generalize (lg_sl [.ref (gB E + 0), .int x1] ++ List.replicate (2 - (lg_sl [.ref (gB E + 0), .int x1]).length) Slot.unset).toArray = ls at hl ⊢
  exact w_X11_count C G X hl h

set_option maxRecDepth 20000 in
theorem w_X12_thrown {r : Int32} {σ : Mem} {ls : Array Slot} {H : Heap} {locs : List Loc} (C : Cx p s m args meth c cX12_thrown (some .int) 1 RX12) (G : Gf E s) (X : Hx E σ s H locs) (hl : lv_has ls 1 [(0, .ref (gB E + 399))]) (h : X12_thrown σ = some r) : W p l e (RM 1) s m args below meth c H locs 0 0 (QI E below args s r σ) (F0 m 0 ls []) := by
  rw [X12_thrown] at h
  refine lv_aload_n C.1 C.2.1 dX12_thrown_0 rfl (lv_at hl 0 rfl) ?_
  refine gfX12 C G X (k := 399) kd_399 0 (v := .int (σ 399 0)) rfl rfl (by decide) k_1651 rfl dX12_thrown_1 ?_
  rw [← Option.some.inj h]
  exact rtI C X dX12_thrown_4

theorem c_X12_thrown (l : Launch) (E : GE) {σ : Mem} {r : Int32} (h : X12_thrown σ = some r) : CtI l E yX12_thrown cX12_thrown 1 .int 1 [.ref (gB E + 399)] σ r σ := by
  refine Met.ofW (cc := cX12_thrown) (maxL := 1) (ret := (some .int)) (by decide) rfl ?_
  intro p e s m args below meth c s₁ B hml hv
  obtain ⟨rfl, G, X⟩ := start hv
  have C := cxof B hml
  have hl := lv_entry [.ref (gB E + 399)] (n := 1) (Nat.le_of_ble_eq_true rfl)
  rw [lg_entry_eq]
  generalize (lg_sl [.ref (gB E + 399)] ++ List.replicate (1 - (lg_sl [.ref (gB E + 399)]).length) Slot.unset).toArray = ls at hl ⊢
  exact w_X12_thrown C G X hl h

set_option maxRecDepth 20000 in
theorem w_X12_isIn {r : Int32} {σ : Mem} {x0 : Int32} {x1 : Int32} {x2 : Int32} {ls : Array Slot} {H : Heap} {locs : List Loc} (C : Cx p s m args meth c cX12_isIn (some .boolean) 3 RX12) (G : Gf E s) (X : Hx E σ s H locs) (hl : lv_has ls 3 [(0, .int x0), (1, .int x1), (2, .int x2)]) (h : X12_isIn σ x0 x1 x2 = some r) : W p l e (RM 1) s m args below meth c H locs 0 0 (QI E below args s r σ) (F0 m 0 ls []) := by
  rw [X12_isIn] at h
  refine lv_iload_n C.1 C.2.1 dX12_isIn_0 rfl (lv_at hl 0 rfl) ?_
  refine lv_iload_n C.1 C.2.1 dX12_isIn_1 rfl (lv_at hl 1 rfl) ?_
  refine lv_icmp_lt (tgt := 14) C.1 C.2.1 dX12_isIn_2 (by decide) (fun c2 => ?_) (fun c2 => ?_)
  · replace h := ipos c2 h
    refine lv_iconst (v := 0) C.1 C.2.1 dX12_isIn_14 (by decide) ?_
    obtain ⟨u15, z15, h⟩ := bnd h
    rw [← Option.some.inj h]
    exact rtZ C X (gb_s z15) dX12_isIn_15
  · replace h := ineg c2 h
    refine lv_iload_n C.1 C.2.1 dX12_isIn_5 rfl (lv_at hl 0 rfl) ?_
    refine lv_iload_n C.1 C.2.1 dX12_isIn_6 rfl (lv_at hl 2 rfl) ?_
    refine lv_icmp_gt (tgt := 14) C.1 C.2.1 dX12_isIn_7 (by decide) (fun c7 => ?_) (fun c7 => ?_)
    · replace h := ipos c7 h
      refine lv_iconst (v := 0) C.1 C.2.1 dX12_isIn_14 (by decide) ?_
      obtain ⟨u15, z15, h⟩ := bnd h
      rw [← Option.some.inj h]
      exact rtZ C X (gb_s z15) dX12_isIn_15
    · replace h := ineg c7 h
      refine lv_iconst (v := 1) C.1 C.2.1 dX12_isIn_10 (by decide) ?_
      refine lv_goto (tgt := 15) C.1 C.2.1 dX12_isIn_11 (by decide) ?_
      obtain ⟨u15, z15, h⟩ := bnd h
      rw [← Option.some.inj h]
      exact rtZ C X (gb_s z15) dX12_isIn_15

theorem c_X12_isIn (l : Launch) (E : GE) {σ : Mem} {x0 : Int32} {x1 : Int32} {x2 : Int32} {r : Int32} (h : X12_isIn σ x0 x1 x2 = some r) : CtI l E yX12_isIn cX12_isIn 3 .boolean 1 [.int x0, .int x1, .int x2] σ r σ := by
  refine Met.ofW (cc := cX12_isIn) (maxL := 3) (ret := (some .boolean)) (by decide) rfl ?_
  intro p e s m args below meth c s₁ B hml hv
  obtain ⟨rfl, G, X⟩ := start hv
  have C := cxof B hml
  have hl := lv_entry [.int x0, .int x1, .int x2] (n := 3) (Nat.le_of_ble_eq_true rfl)
  rw [lg_entry_eq]
  generalize (lg_sl [.int x0, .int x1, .int x2] ++ List.replicate (3 - (lg_sl [.int x0, .int x1, .int x2]).length) Slot.unset).toArray = ls at hl ⊢
  exact w_X12_isIn C G X hl h

set_option maxRecDepth 20000 in
theorem w_X12_lesser {r : Int32} {σ : Mem} {x0 : Int32} {x1 : Int32} {ls : Array Slot} {H : Heap} {locs : List Loc} (C : Cx p s m args meth c cX12_lesser (some .int) 2 RX12) (G : Gf E s) (X : Hx E σ s H locs) (hl : lv_has ls 2 [(0, .int x0), (1, .int x1)]) (h : X12_lesser σ x0 x1 = some r) : W p l e (RM 1) s m args below meth c H locs 0 0 (QI E below args s r σ) (F0 m 0 ls []) := by
  rw [X12_lesser] at h
  refine lv_iload_n C.1 C.2.1 dX12_lesser_0 rfl (lv_at hl 0 rfl) ?_
  refine lv_iload_n C.1 C.2.1 dX12_lesser_1 rfl (lv_at hl 1 rfl) ?_
  refine lv_icmp_ge (tgt := 9) C.1 C.2.1 dX12_lesser_2 (by decide) (fun c2 => ?_) (fun c2 => ?_)
  · replace h := ipos c2 h
    refine lv_iload_n C.1 C.2.1 dX12_lesser_9 rfl (lv_at hl 1 rfl) ?_
    rw [← Option.some.inj h]
    exact rtI C X dX12_lesser_10
  · replace h := ineg c2 h
    refine lv_iload_n C.1 C.2.1 dX12_lesser_5 rfl (lv_at hl 0 rfl) ?_
    refine lv_goto (tgt := 10) C.1 C.2.1 dX12_lesser_6 (by decide) ?_
    rw [← Option.some.inj h]
    exact rtI C X dX12_lesser_10

theorem c_X12_lesser (l : Launch) (E : GE) {σ : Mem} {x0 : Int32} {x1 : Int32} {r : Int32} (h : X12_lesser σ x0 x1 = some r) : CtI l E yX12_lesser cX12_lesser 2 .int 1 [.int x0, .int x1] σ r σ := by
  refine Met.ofW (cc := cX12_lesser) (maxL := 2) (ret := (some .int)) (by decide) rfl ?_
  intro p e s m args below meth c s₁ B hml hv
  obtain ⟨rfl, G, X⟩ := start hv
  have C := cxof B hml
  have hl := lv_entry [.int x0, .int x1] (n := 2) (Nat.le_of_ble_eq_true rfl)
  rw [lg_entry_eq]
  generalize (lg_sl [.int x0, .int x1] ++ List.replicate (2 - (lg_sl [.int x0, .int x1]).length) Slot.unset).toArray = ls at hl ⊢
  exact w_X12_lesser C G X hl h

set_option maxRecDepth 20000 in
theorem w_X12_greater {r : Int32} {σ : Mem} {x0 : Int32} {x1 : Int32} {ls : Array Slot} {H : Heap} {locs : List Loc} (C : Cx p s m args meth c cX12_greater (some .int) 2 RX12) (G : Gf E s) (X : Hx E σ s H locs) (hl : lv_has ls 2 [(0, .int x0), (1, .int x1)]) (h : X12_greater σ x0 x1 = some r) : W p l e (RM 1) s m args below meth c H locs 0 0 (QI E below args s r σ) (F0 m 0 ls []) := by
  rw [X12_greater] at h
  refine lv_iload_n C.1 C.2.1 dX12_greater_0 rfl (lv_at hl 0 rfl) ?_
  refine lv_iload_n C.1 C.2.1 dX12_greater_1 rfl (lv_at hl 1 rfl) ?_
  refine lv_icmp_le (tgt := 9) C.1 C.2.1 dX12_greater_2 (by decide) (fun c2 => ?_) (fun c2 => ?_)
  · replace h := ipos c2 h
    refine lv_iload_n C.1 C.2.1 dX12_greater_9 rfl (lv_at hl 1 rfl) ?_
    rw [← Option.some.inj h]
    exact rtI C X dX12_greater_10
  · replace h := ineg c2 h
    refine lv_iload_n C.1 C.2.1 dX12_greater_5 rfl (lv_at hl 0 rfl) ?_
    refine lv_goto (tgt := 10) C.1 C.2.1 dX12_greater_6 (by decide) ?_
    rw [← Option.some.inj h]
    exact rtI C X dX12_greater_10

theorem c_X12_greater (l : Launch) (E : GE) {σ : Mem} {x0 : Int32} {x1 : Int32} {r : Int32} (h : X12_greater σ x0 x1 = some r) : CtI l E yX12_greater cX12_greater 2 .int 1 [.int x0, .int x1] σ r σ := by
  refine Met.ofW (cc := cX12_greater) (maxL := 2) (ret := (some .int)) (by decide) rfl ?_
  intro p e s m args below meth c s₁ B hml hv
  obtain ⟨rfl, G, X⟩ := start hv
  have C := cxof B hml
  have hl := lv_entry [.int x0, .int x1] (n := 2) (Nat.le_of_ble_eq_true rfl)
  rw [lg_entry_eq]
  generalize (lg_sl [.int x0, .int x1] ++ List.replicate (2 - (lg_sl [.int x0, .int x1]).length) Slot.unset).toArray = ls at hl ⊢
  exact w_X12_greater C G X hl h

set_option maxRecDepth 20000 in
theorem w_X12_isOf {r : Int32} {σ : Mem} {x0 : Int32} {x1 : Int32} {ls : Array Slot} {H : Heap} {locs : List Loc} (C : Cx p s m args meth c cX12_isOf (some .boolean) 2 RX12) (G : Gf E s) (X : Hx E σ s H locs) (hl : lv_has ls 2 [(0, .int x0), (1, .int x1)]) (h : X12_isOf σ x0 x1 = some r) : W p l e (RM 1) s m args below meth c H locs 0 0 (QI E below args s r σ) (F0 m 0 ls []) := by
  rw [X12_isOf] at h
  refine lv_iload_n C.1 C.2.1 dX12_isOf_0 rfl (lv_at hl 0 rfl) ?_
  refine lv_iload_n C.1 C.2.1 dX12_isOf_1 rfl (lv_at hl 1 rfl) ?_
  refine lv_ishr C.1 C.2.1 dX12_isOf_2 ?_
  refine lv_iconst (v := 1) C.1 C.2.1 dX12_isOf_3 (by decide) ?_
  refine lv_iand C.1 C.2.1 dX12_isOf_4 ?_
  refine lv_iconst (v := 1) C.1 C.2.1 dX12_isOf_5 (by decide) ?_
  refine lv_icmp_ne (tgt := 13) C.1 C.2.1 dX12_isOf_6 (by decide) (fun c6 => ?_) (fun c6 => ?_)
  · replace h := ineg c6 h
    refine lv_iconst (v := 0) C.1 C.2.1 dX12_isOf_13 (by decide) ?_
    obtain ⟨u14, z14, h⟩ := bnd h
    rw [← Option.some.inj h]
    exact rtZ C X (gb_s z14) dX12_isOf_14
  · replace h := ipos c6 h
    refine lv_iconst (v := 1) C.1 C.2.1 dX12_isOf_9 (by decide) ?_
    refine lv_goto (tgt := 14) C.1 C.2.1 dX12_isOf_10 (by decide) ?_
    obtain ⟨u14, z14, h⟩ := bnd h
    rw [← Option.some.inj h]
    exact rtZ C X (gb_s z14) dX12_isOf_14

theorem c_X12_isOf (l : Launch) (E : GE) {σ : Mem} {x0 : Int32} {x1 : Int32} {r : Int32} (h : X12_isOf σ x0 x1 = some r) : CtI l E yX12_isOf cX12_isOf 2 .boolean 1 [.int x0, .int x1] σ r σ := by
  refine Met.ofW (cc := cX12_isOf) (maxL := 2) (ret := (some .boolean)) (by decide) rfl ?_
  intro p e s m args below meth c s₁ B hml hv
  obtain ⟨rfl, G, X⟩ := start hv
  have C := cxof B hml
  have hl := lv_entry [.int x0, .int x1] (n := 2) (Nat.le_of_ble_eq_true rfl)
  rw [lg_entry_eq]
  generalize (lg_sl [.int x0, .int x1] ++ List.replicate (2 - (lg_sl [.int x0, .int x1]).length) Slot.unset).toArray = ls at hl ⊢
  exact w_X12_isOf C G X hl h

set_option maxRecDepth 20000 in
theorem w_X12_bits_4 {r : Int32} {σ : Mem} (C : Cx p s m args meth c cX12_bits (some .int) 3 RX12) (G : Gf E s) : ∀ (f : Nat) {x0 : Int32} {x1 : Int32} {x2 : Int32} {ls : Array Slot} {H : Heap} {locs : List Loc}, Hx E σ s H locs → lv_has ls 3 [(0, .int x0), (1, .int x1), (2, .int x2)] → X12_bits_4 σ f x0 x1 x2 = some r → W p l e (RM 1) s m args below meth c H locs 0 0 (QI E below args s r σ) (F0 m 4 ls []) := by
  intro f
  induction f with
  | zero =>
    intro x0 x1 x2 ls H locs X hl h
    rw [X12_bits_4] at h
    cases h
  | succ f ih =>
    intro x0 x1 x2 ls H locs X hl h
    rw [X12_bits_4] at h
    refine lv_iload_n C.1 C.2.1 dX12_bits_4 rfl (lv_at hl 2 rfl) ?_
    refine lv_bipush (v := 31) C.1 C.2.1 dX12_bits_5 (by decide) ?_
    refine lv_icmp_ge (tgt := 24) C.1 C.2.1 dX12_bits_7 (by decide) (fun c7 => ?_) (fun c7 => ?_)
    · replace h := ipos c7 h
      refine lv_iload_n C.1 C.2.1 dX12_bits_24 rfl (lv_at hl 1 rfl) ?_
      rw [← Option.some.inj h]
      exact rtI C X dX12_bits_25
    · replace h := ineg c7 h
      refine lv_iload_n C.1 C.2.1 dX12_bits_10 rfl (lv_at hl 1 rfl) ?_
      refine lv_iload_n C.1 C.2.1 dX12_bits_11 rfl (lv_at hl 0 rfl) ?_
      refine lv_iload_n C.1 C.2.1 dX12_bits_12 rfl (lv_at hl 2 rfl) ?_
      refine lv_ishr C.1 C.2.1 dX12_bits_13 ?_
      refine lv_iconst (v := 1) C.1 C.2.1 dX12_bits_14 (by decide) ?_
      refine lv_iand C.1 C.2.1 dX12_bits_15 ?_
      refine lv_iadd C.1 C.2.1 dX12_bits_16 ?_
      refine lv_istore_n (lv' := [(1, .int (x1 + ((x0 >>> (x2 &&& 31)) &&& (1 : Int32)))), (0, .int x0), (2, .int x2)]) C.1 C.2.1 dX12_bits_17 rfl hl (by decide) rfl (fun ls hl => ?_)
      refine lv_iinc (v := (x2 + 1)) (lv' := [(2, .int (x2 + 1)), (1, .int (x1 + ((x0 >>> (x2 &&& 31)) &&& (1 : Int32)))), (0, .int x0)]) C.1 C.2.1 dX12_bits_18 hl (k := 2) rfl rfl (by decide) rfl (fun ls hl => ?_)
      refine lv_goto (tgt := 4) C.1 C.2.1 dX12_bits_21 (by decide) ?_
      exact ih X (lv_sub hl [2, 1, 0] rfl) h

set_option maxRecDepth 20000 in
theorem w_X12_bits {r : Int32} {σ : Mem} {x0 : Int32} {ls : Array Slot} {H : Heap} {locs : List Loc} (C : Cx p s m args meth c cX12_bits (some .int) 3 RX12) (G : Gf E s) (X : Hx E σ s H locs) (hl : lv_has ls 3 [(0, .int x0)]) (h : X12_bits σ x0 = some r) : W p l e (RM 1) s m args below meth c H locs 0 0 (QI E below args s r σ) (F0 m 0 ls []) := by
  rw [X12_bits] at h
  refine lv_iconst (v := 0) C.1 C.2.1 dX12_bits_0 (by decide) ?_
  refine lv_istore_n (lv' := [(1, .int (0 : Int32)), (0, .int x0)]) C.1 C.2.1 dX12_bits_1 rfl hl (by decide) rfl (fun ls hl => ?_)
  refine lv_iconst (v := 0) C.1 C.2.1 dX12_bits_2 (by decide) ?_
  refine lv_istore_n (lv' := [(2, .int (0 : Int32)), (1, .int (0 : Int32)), (0, .int x0)]) C.1 C.2.1 dX12_bits_3 rfl hl (by decide) rfl (fun ls hl => ?_)
  exact w_X12_bits_4 C G FU X (lv_sub hl [2, 1, 0] rfl) h

theorem c_X12_bits (l : Launch) (E : GE) {σ : Mem} {x0 : Int32} {r : Int32} (h : X12_bits σ x0 = some r) : CtI l E yX12_bits cX12_bits 3 .int 1 [.int x0] σ r σ := by
  refine Met.ofW (cc := cX12_bits) (maxL := 3) (ret := (some .int)) (by decide) rfl ?_
  intro p e s m args below meth c s₁ B hml hv
  obtain ⟨rfl, G, X⟩ := start hv
  have C := cxof B hml
  have hl := lv_entry [.int x0] (n := 3) (Nat.le_of_ble_eq_true rfl)
  rw [lg_entry_eq]
  generalize (lg_sl [.int x0] ++ List.replicate (3 - (lg_sl [.int x0]).length) Slot.unset).toArray = ls at hl ⊢
  exact w_X12_bits C G X hl h

set_option maxRecDepth 20000 in
theorem w_X12_of {r : Int32} {σ : Mem} {x1 : Int32} {x2 : Int32} {ls : Array Slot} {H : Heap} {locs : List Loc} (C : Cx p s m args meth c cX12_of (some .int) 3 RX12) (G : Gf E s) (X : Hx E σ s H locs) (hl : lv_has ls 3 [(0, .ref (gB E + 399)), (1, .int x1), (2, .int x2)]) (h : X12_of σ x1 x2 = some r) : W p l e (RM 1) s m args below meth c H locs 0 0 (QI E below args s r σ) (F0 m 0 ls []) := by
  rw [X12_of] at h
  refine lv_aload_n C.1 C.2.1 dX12_of_0 rfl (lv_at hl 0 rfl) ?_
  refine gfX12 C G X (k := 399) kd_399 1 (v := .ref (gB E + 400)) rfl rfl (by decide) k_1652 rfl dX12_of_1 ?_
  refine lv_bipush (v := 11) C.1 C.2.1 dX12_of_4 (by decide) ?_
  refine lv_iconst (v := 4) C.1 C.2.1 dX12_of_6 (by decide) ?_
  refine lv_iload_n C.1 C.2.1 dX12_of_7 rfl (lv_at hl 1 rfl) ?_
  refine lv_imul C.1 C.2.1 dX12_of_8 ?_
  refine lv_iadd C.1 C.2.1 dX12_of_9 ?_
  refine lv_iload_n C.1 C.2.1 dX12_of_10 rfl (lv_at hl 2 rfl) ?_
  refine lv_iadd C.1 C.2.1 dX12_of_11 ?_
  obtain ⟨r12, e12, h⟩ := bnd h
  refine ald C G X (k := 400) kd_400 (ag_s e12).1 dX12_of_12 ?_
  rw [(ag_s e12).2]
  rw [← Option.some.inj h]
  exact rtI C X dX12_of_13

theorem c_X12_of (l : Launch) (E : GE) {σ : Mem} {x1 : Int32} {x2 : Int32} {r : Int32} (h : X12_of σ x1 x2 = some r) : CtI l E yX12_of cX12_of 3 .int 1 [.ref (gB E + 399), .int x1, .int x2] σ r σ := by
  refine Met.ofW (cc := cX12_of) (maxL := 3) (ret := (some .int)) (by decide) rfl ?_
  intro p e s m args below meth c s₁ B hml hv
  obtain ⟨rfl, G, X⟩ := start hv
  have C := cxof B hml
  have hl := lv_entry [.ref (gB E + 399), .int x1, .int x2] (n := 3) (Nat.le_of_ble_eq_true rfl)
  rw [lg_entry_eq]
  generalize (lg_sl [.ref (gB E + 399), .int x1, .int x2] ++ List.replicate (3 - (lg_sl [.ref (gB E + 399), .int x1, .int x2]).length) Slot.unset).toArray = ls at hl ⊢
  exact w_X12_of C G X hl h

set_option maxRecDepth 20000 in
theorem w_X12_lays {r : Mem} {σ : Mem} {x1 : Int32} {x2 : Int32} {x3 : Int32} {ls : Array Slot} {H : Heap} {locs : List Loc} (C : Cx p s m args meth c cX12_lays none 4 RX12) (G : Gf E s) (X : Hx E σ s H locs) (hl : lv_has ls 4 [(0, .ref (gB E + 399)), (1, .int x1), (2, .int x2), (3, .int x3)]) (h : X12_lays x1 x2 x3 σ = some r) : W p l e (RM 1) s m args below meth c H locs 0 0 (QV E below args s r) (F0 m 0 ls []) := by
  rw [X12_lays] at h
  refine lv_aload_n C.1 C.2.1 dX12_lays_0 rfl (lv_at hl 0 rfl) ?_
  refine gfX12 C G X (k := 399) kd_399 1 (v := .ref (gB E + 400)) rfl rfl (by decide) k_1652 rfl dX12_lays_1 ?_
  refine lv_bipush (v := 11) C.1 C.2.1 dX12_lays_4 (by decide) ?_
  refine lv_iconst (v := 4) C.1 C.2.1 dX12_lays_6 (by decide) ?_
  refine lv_iload_n C.1 C.2.1 dX12_lays_7 rfl (lv_at hl 1 rfl) ?_
  refine lv_imul C.1 C.2.1 dX12_lays_8 ?_
  refine lv_iadd C.1 C.2.1 dX12_lays_9 ?_
  refine lv_iload_n C.1 C.2.1 dX12_lays_10 rfl (lv_at hl 2 rfl) ?_
  refine lv_iadd C.1 C.2.1 dX12_lays_11 ?_
  refine lv_iload_n C.1 C.2.1 dX12_lays_12 rfl (lv_at hl 3 rfl) ?_
  obtain ⟨σ13, e13, h⟩ := bnd h
  refine ast C G X (k := 400) kd_400 (au_s e13).1 dX12_lays_13 (fun H locs X => ?_)
  rw [(au_s e13).2] at X
  rw [← Option.some.inj h]
  exact rtV C X dX12_lays_14

theorem c_X12_lays (l : Launch) (E : GE) {σ : Mem} {x1 : Int32} {x2 : Int32} {x3 : Int32} {r : Mem} (h : X12_lays x1 x2 x3 σ = some r) : CtV l E yX12_lays cX12_lays 4 1 [.ref (gB E + 399), .int x1, .int x2, .int x3] σ r := by
  refine Met.ofW (cc := cX12_lays) (maxL := 4) (ret := none) (by decide) rfl ?_
  intro p e s m args below meth c s₁ B hml hv
  obtain ⟨rfl, G, X⟩ := start hv
  have C := cxof B hml
  have hl := lv_entry [.ref (gB E + 399), .int x1, .int x2, .int x3] (n := 4) (Nat.le_of_ble_eq_true rfl)
  rw [lg_entry_eq]
  generalize (lg_sl [.ref (gB E + 399), .int x1, .int x2, .int x3] ++ List.replicate (4 - (lg_sl [.ref (gB E + 399), .int x1, .int x2, .int x3]).length) Slot.unset).toArray = ls at hl ⊢
  exact w_X12_lays C G X hl h

set_option maxRecDepth 20000 in
theorem w_X12_ofWalker {r : Int32} {σ : Mem} {x1 : Int32} {x2 : Int32} {ls : Array Slot} {H : Heap} {locs : List Loc} (C : Cx p s m args meth c cX12_ofWalker (some .int) 3 RX12) (G : Gf E s) (X : Hx E σ s H locs) (hl : lv_has ls 3 [(0, .ref (gB E + 399)), (1, .int x1), (2, .int x2)]) (h : X12_ofWalker σ x1 x2 = some r) : W p l e (RM 1) s m args below meth c H locs 0 0 (QI E below args s r σ) (F0 m 0 ls []) := by
  rw [X12_ofWalker] at h
  refine lv_aload_n C.1 C.2.1 dX12_ofWalker_0 rfl (lv_at hl 0 rfl) ?_
  refine gfX12 C G X (k := 399) kd_399 1 (v := .ref (gB E + 400)) rfl rfl (by decide) k_1652 rfl dX12_ofWalker_1 ?_
  refine lv_sipush (v := 128) C.1 C.2.1 dX12_ofWalker_4 (by decide) ?_
  refine lv_iconst (v := 4) C.1 C.2.1 dX12_ofWalker_7 (by decide) ?_
  refine lv_iload_n C.1 C.2.1 dX12_ofWalker_8 rfl (lv_at hl 1 rfl) ?_
  refine lv_imul C.1 C.2.1 dX12_ofWalker_9 ?_
  refine lv_iadd C.1 C.2.1 dX12_ofWalker_10 ?_
  refine lv_iload_n C.1 C.2.1 dX12_ofWalker_11 rfl (lv_at hl 2 rfl) ?_
  refine lv_iadd C.1 C.2.1 dX12_ofWalker_12 ?_
  obtain ⟨r13, e13, h⟩ := bnd h
  refine ald C G X (k := 400) kd_400 (ag_s e13).1 dX12_ofWalker_13 ?_
  rw [(ag_s e13).2]
  rw [← Option.some.inj h]
  exact rtI C X dX12_ofWalker_14

theorem c_X12_ofWalker (l : Launch) (E : GE) {σ : Mem} {x1 : Int32} {x2 : Int32} {r : Int32} (h : X12_ofWalker σ x1 x2 = some r) : CtI l E yX12_ofWalker cX12_ofWalker 3 .int 1 [.ref (gB E + 399), .int x1, .int x2] σ r σ := by
  refine Met.ofW (cc := cX12_ofWalker) (maxL := 3) (ret := (some .int)) (by decide) rfl ?_
  intro p e s m args below meth c s₁ B hml hv
  obtain ⟨rfl, G, X⟩ := start hv
  have C := cxof B hml
  have hl := lv_entry [.ref (gB E + 399), .int x1, .int x2] (n := 3) (Nat.le_of_ble_eq_true rfl)
  rw [lg_entry_eq]
  generalize (lg_sl [.ref (gB E + 399), .int x1, .int x2] ++ List.replicate (3 - (lg_sl [.ref (gB E + 399), .int x1, .int x2]).length) Slot.unset).toArray = ls at hl ⊢
  exact w_X12_ofWalker C G X hl h

set_option maxRecDepth 20000 in
theorem w_X12_liking {r : Int32} {σ : Mem} {x1 : Int32} {x2 : Int32} {ls : Array Slot} {H : Heap} {locs : List Loc} (C : Cx p s m args meth c cX12_liking (some .int) 3 RX12) (G : Gf E s) (X : Hx E σ s H locs) (hl : lv_has ls 3 [(0, .ref (gB E + 399)), (1, .int x1), (2, .int x2)]) (h : X12_liking σ x1 x2 = some r) : W p l e (RM 1) s m args below meth c H locs 0 0 (QI E below args s r σ) (F0 m 0 ls []) := by
  rw [X12_liking] at h
  refine lv_aload_n C.1 C.2.1 dX12_liking_0 rfl (lv_at hl 0 rfl) ?_
  refine gfX12 C G X (k := 399) kd_399 1 (v := .ref (gB E + 400)) rfl rfl (by decide) k_1652 rfl dX12_liking_1 ?_
  refine lv_sipush (v := 152) C.1 C.2.1 dX12_liking_4 (by decide) ?_
  refine lv_bipush (v := 6) C.1 C.2.1 dX12_liking_7 (by decide) ?_
  refine lv_iload_n C.1 C.2.1 dX12_liking_9 rfl (lv_at hl 1 rfl) ?_
  refine lv_imul C.1 C.2.1 dX12_liking_10 ?_
  refine lv_iadd C.1 C.2.1 dX12_liking_11 ?_
  refine lv_iload_n C.1 C.2.1 dX12_liking_12 rfl (lv_at hl 2 rfl) ?_
  refine lv_iadd C.1 C.2.1 dX12_liking_13 ?_
  obtain ⟨r14, e14, h⟩ := bnd h
  refine ald C G X (k := 400) kd_400 (ag_s e14).1 dX12_liking_14 ?_
  rw [(ag_s e14).2]
  rw [← Option.some.inj h]
  exact rtI C X dX12_liking_15

theorem c_X12_liking (l : Launch) (E : GE) {σ : Mem} {x1 : Int32} {x2 : Int32} {r : Int32} (h : X12_liking σ x1 x2 = some r) : CtI l E yX12_liking cX12_liking 3 .int 1 [.ref (gB E + 399), .int x1, .int x2] σ r σ := by
  refine Met.ofW (cc := cX12_liking) (maxL := 3) (ret := (some .int)) (by decide) rfl ?_
  intro p e s m args below meth c s₁ B hml hv
  obtain ⟨rfl, G, X⟩ := start hv
  have C := cxof B hml
  have hl := lv_entry [.ref (gB E + 399), .int x1, .int x2] (n := 3) (Nat.le_of_ble_eq_true rfl)
  rw [lg_entry_eq]
  generalize (lg_sl [.ref (gB E + 399), .int x1, .int x2] ++ List.replicate (3 - (lg_sl [.ref (gB E + 399), .int x1, .int x2]).length) Slot.unset).toArray = ls at hl ⊢
  exact w_X12_liking C G X hl h

set_option maxRecDepth 20000 in
theorem w_X12_isWay {r : Int32} {σ : Mem} {x1 : Int32} {x2 : Int32} {ls : Array Slot} {H : Heap} {locs : List Loc} (C : Cx p s m args meth c cX12_isWay (some .boolean) 3 RX12) (G : Gf E s) (X : Hx E σ s H locs) (hl : lv_has ls 3 [(0, .ref (gB E + 399)), (1, .int x1), (2, .int x2)]) (h : X12_isWay σ x1 x2 = some r) : W p l e (RM 1) s m args below meth c H locs 0 0 (QI E below args s r σ) (F0 m 0 ls []) := by
  rw [X12_isWay] at h
  refine lv_aload_n C.1 C.2.1 dX12_isWay_0 rfl (lv_at hl 0 rfl) ?_
  refine gfX12 C G X (k := 399) kd_399 1 (v := .ref (gB E + 400)) rfl rfl (by decide) k_1652 rfl dX12_isWay_1 ?_
  refine lv_bipush (v := 47) C.1 C.2.1 dX12_isWay_4 (by decide) ?_
  refine lv_bipush (v := 9) C.1 C.2.1 dX12_isWay_6 (by decide) ?_
  refine lv_iload_n C.1 C.2.1 dX12_isWay_8 rfl (lv_at hl 1 rfl) ?_
  refine lv_imul C.1 C.2.1 dX12_isWay_9 ?_
  refine lv_iadd C.1 C.2.1 dX12_isWay_10 ?_
  refine lv_iload_n C.1 C.2.1 dX12_isWay_11 rfl (lv_at hl 2 rfl) ?_
  refine lv_iadd C.1 C.2.1 dX12_isWay_12 ?_
  obtain ⟨r13, e13, h⟩ := bnd h
  refine ald C G X (k := 400) kd_400 (ag_s e13).1 dX12_isWay_13 ?_
  rw [(ag_s e13).2]
  refine lv_iconst (v := 1) C.1 C.2.1 dX12_isWay_14 (by decide) ?_
  refine lv_icmp_ne (tgt := 22) C.1 C.2.1 dX12_isWay_15 (by decide) (fun c15 => ?_) (fun c15 => ?_)
  · replace h := ineg c15 h
    refine lv_iconst (v := 0) C.1 C.2.1 dX12_isWay_22 (by decide) ?_
    obtain ⟨u23, z23, h⟩ := bnd h
    rw [← Option.some.inj h]
    exact rtZ C X (gb_s z23) dX12_isWay_23
  · replace h := ipos c15 h
    refine lv_iconst (v := 1) C.1 C.2.1 dX12_isWay_18 (by decide) ?_
    refine lv_goto (tgt := 23) C.1 C.2.1 dX12_isWay_19 (by decide) ?_
    obtain ⟨u23, z23, h⟩ := bnd h
    rw [← Option.some.inj h]
    exact rtZ C X (gb_s z23) dX12_isWay_23

theorem c_X12_isWay (l : Launch) (E : GE) {σ : Mem} {x1 : Int32} {x2 : Int32} {r : Int32} (h : X12_isWay σ x1 x2 = some r) : CtI l E yX12_isWay cX12_isWay 3 .boolean 1 [.ref (gB E + 399), .int x1, .int x2] σ r σ := by
  refine Met.ofW (cc := cX12_isWay) (maxL := 3) (ret := (some .boolean)) (by decide) rfl ?_
  intro p e s m args below meth c s₁ B hml hv
  obtain ⟨rfl, G, X⟩ := start hv
  have C := cxof B hml
  have hl := lv_entry [.ref (gB E + 399), .int x1, .int x2] (n := 3) (Nat.le_of_ble_eq_true rfl)
  rw [lg_entry_eq]
  generalize (lg_sl [.ref (gB E + 399), .int x1, .int x2] ++ List.replicate (3 - (lg_sl [.ref (gB E + 399), .int x1, .int x2]).length) Slot.unset).toArray = ls at hl ⊢
  exact w_X12_isWay C G X hl h

end WALK

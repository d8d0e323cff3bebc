def X5_stepsBy (σ : Mem) (x1 : Int32) (x2 : Int32) (x3 : Int32) : Option Int32 :=
  bd (X11_bit σ x3) fun r2 =>
  bd (X6_get σ 388 ((x2 * (9 : Int32)) + x3)) fun r20 =>
  bd (X6_get σ 390 (((x1 &&& (r2 ^^^ (-1 : Int32))) * (9 : Int32)) + x3)) fun r34 =>
  some ((r20 + r34))
def X5_fewestSteps_7 (σ : Mem) : Nat → Int32 → Int32 → Int32 → Int32 → Option Int32
  | 0, _, _, _, _ => none
  | f + 1, x1, x2, x3, x4 =>
    if (9 : Int32) ≤ x4 then
      some (x3)
    else
      bd (X11_hasBit σ x1 x4) fun r17 =>
      if r17 = 0 then
        X5_fewestSteps_7 σ f x1 x2 x3 (x4 + 1)
      else
        bd (X5_stepsBy σ x1 x2 x4) fun r29 =>
        X5_fewestSteps_7 σ f x1 x2 (if r29 < x3 then r29 else x3) (x4 + 1)
def X5_fewestSteps (σ : Mem) (x1 : Int32) (x2 : Int32) : Option Int32 :=
  X5_fewestSteps_7 σ FU x1 x2 (1000 : Int32) (0 : Int32)
def X5_roundSteps_41 (rc23 : Nat → Int32 → Int32 → Int32 → Mem → Option (Int32 × Mem)) : Nat → Nat → Int32 → Int32 → Int32 → Int32 → Mem → Option (Int32 × Mem)
  | 0, _, _, _, _, _, _ => none
  | f + 1, a1, x2, x3, x4, x5, σ =>
    if (σ a1 0) ≤ x5 then
      rc23 a1 x2 x3 (x4 + 1) σ
    else
      bd (X5_fewestSteps σ x4 x5) fun r67 =>
      bd (X6_set 390 ((x4 * (9 : Int32)) + x5) r67 σ) fun σ70 =>
      X5_roundSteps_41 rc23 f a1 x2 x3 x4 (x5 + 1) σ70
def X5_roundSteps_23 : Nat → Nat → Int32 → Int32 → Int32 → Mem → Option (Int32 × Mem)
  | 0, _, _, _, _, _ => none
  | f + 1, a1, x2, x3, x4, σ =>
    if x3 < x4 then
      bd (X6_get σ 390 ((x3 * (9 : Int32)) + x2)) fun r95 =>
      some (r95, σ)
    else
      if (x4 &&& (x3 ^^^ (-1 : Int32))) = 0 then
        X5_roundSteps_41 (X5_roundSteps_23 f) FU a1 x2 x3 x4 (0 : Int32) σ
      else
        X5_roundSteps_23 f a1 x2 x3 (x4 + 1) σ
def X5_roundSteps (a1 : Nat) (x2 : Int32) (x3 : Int32) (σ : Mem) : Option (Int32 × Mem) :=
  bd (X7_reached σ a1 x2 (-1 : Int32)) fun r4 =>
  if (x3 &&& (r4 ^^^ (-1 : Int32))) = 0 then
    bd (X5_measure a1 σ) fun σ17 =>
    X5_roundSteps_23 FU a1 x2 x3 (1 : Int32) σ17
  else
    some ((-1 : Int32), σ)
def X5_roundBegin_3 (σ : Mem) : Nat → Int32 → Int32 → Int32 → Int32 → Option Int32
  | 0, _, _, _, _ => none
  | f + 1, x1, x2, x3, x4 =>
    if (9 : Int32) ≤ x4 then
      some ((-1 : Int32))
    else
      bd (X11_hasBit σ x2 x4) fun r13 =>
      if r13 = 0 then
        X5_roundBegin_3 σ f x1 x2 x3 (x4 + 1)
      else
        bd (X5_stepsBy σ x2 x1 x4) fun r24 =>
        if r24 = x3 then
          some (x4)
        else
          X5_roundBegin_3 σ f x1 x2 x3 (x4 + 1)
def X5_roundBegin (σ : Mem) (x1 : Int32) (x2 : Int32) (x3 : Int32) : Option Int32 :=
  X5_roundBegin_3 σ FU x1 x2 x3 (0 : Int32)
def X11_round (x1 : Int32) (x2 : Int32) (σ : Mem) : Option ((Int32 ⊕ Nat) × Mem) :=
  bd2 (X10_useUp σ) fun r4 σ4 =>
  bdx (X11_needWalker σ4 x1) (fun _ =>
    bd (X5_toldPanes σ4 9 r4) fun r26 =>
    if r26 = (-1 : Int32) then
      some (.inr 2, σ4)
    else
      bd (X6_get σ4 18 x1) fun r56 =>
      bd2 (X5_roundSteps 9 r56 r26 σ4) fun r73 σ73 =>
      if x2 = 0 then
        some (.inl r73, σ73)
      else
        if r73 = (-1 : Int32) then
          some (.inl r73, σ73)
        else
          bd (X5_roundBegin σ73 r56 r26 r73) fun r101 =>
          some (.inl r101, σ73))
   (fun x10_ =>
    some (.inr x10_, σ4))

def J6_bitCount_0f7a4 (σ : Mem) (x0 : Int32) : Option Int32 :=
  bd (some ((x0 - (((x0.toUInt32 >>> ((1 : Int32).toUInt32 &&& Int32.toUInt32 31)).toInt32) &&& (1431655765 : Int32))))) fun v9 =>
  bd (some (((v9 &&& (858993459 : Int32)) + (((v9.toUInt32 >>> ((2 : Int32).toUInt32 &&& Int32.toUInt32 31)).toInt32) &&& (858993459 : Int32))))) fun v23 =>
  bd (some (((v23 + ((v23.toUInt32 >>> ((4 : Int32).toUInt32 &&& Int32.toUInt32 31)).toInt32)) &&& (252645135 : Int32)))) fun v33 =>
  bd (some ((v33 + ((v33.toUInt32 >>> ((8 : Int32).toUInt32 &&& Int32.toUInt32 31)).toInt32)))) fun v40 =>
  bd (some ((v40 + ((v40.toUInt32 >>> ((16 : Int32).toUInt32 &&& Int32.toUInt32 31)).toInt32)))) fun v47 =>
  some ((v47 &&& (63 : Int32)))
def X5_fewestBeats_38 (σ : Mem) (rc15 : Nat → Int32 → Int32 → Int32 → Option Int32) (a1 : Nat) (x2 : Int32) (x3 : Int32) (x4 : Int32) (y0 : Int32) : Option Int32 :=
  if y0 = 0 then
    rc15 a1 x2 x3 (x4 + 1)
  else
    bd (X7_around σ a1 x4) fun r50 =>
    if (x4 ||| r50) = x2 then
      rc15 a1 x2 x4 (x4 + 1)
    else
      rc15 a1 x2 x3 (x4 + 1)
def X5_fewestBeats_15 (σ : Mem) : Nat → Nat → Int32 → Int32 → Int32 → Option Int32
  | 0, _, _, _, _ => none
  | f + 1, a1, x2, x3, x4 =>
    if x2 ≤ x4 then
      some (x3)
    else
      bd (J6_bitCount_0f7a4 σ x4) fun r23 =>
      bd (J6_bitCount_0f7a4 σ x3) fun r27 =>
      if r27 ≤ r23 then
        X5_fewestBeats_38 σ (X5_fewestBeats_15 σ f) a1 x2 x3 x4 (0 : Int32)
      else
        X5_fewestBeats_38 σ (X5_fewestBeats_15 σ f) a1 x2 x3 x4 (1 : Int32)
def X5_fewestBeats (σ : Mem) (a1 : Nat) : Option Int32 :=
  bd (X11_bit σ (σ a1 0)) fun r4 =>
  X5_fewestBeats_15 σ FU a1 (r4 - (1 : Int32)) (r4 - (1 : Int32)) (0 : Int32)
def X11_beats (σ : Mem) : Option Int32 :=
  bd (X5_fewestBeats σ 9) fun r8 =>
  some (r8)
def X5_pieces_15 (σ : Mem) : Nat → Nat → Int32 → Int32 → Int32 → Option Int32
  | 0, _, _, _, _ => none
  | f + 1, a1, x2, x3, x4 =>
    if (σ a1 0) ≤ x4 then
      some (x3)
    else
      bd (X11_hasBit σ x2 x4) fun r27 =>
      if r27 = 0 then
        X5_pieces_15 σ f a1 x2 x3 (x4 + 1)
      else
        bd (X7_reached σ a1 x4 x2) fun r38 =>
        X5_pieces_15 σ f a1 (x2 &&& (r38 ^^^ (-1 : Int32))) (x3 + 1) (x4 + 1)
def X5_pieces (σ : Mem) (a1 : Nat) : Option Int32 :=
  bd (X11_bit σ (σ a1 0)) fun r4 =>
  X5_pieces_15 σ FU a1 (r4 - (1 : Int32)) (0 : Int32) (0 : Int32)
def X11_parts (σ : Mem) : Option Int32 :=
  bd (X5_pieces σ 9) fun r8 =>
  some (r8)
def X5_partingPanes_4 (σ : Mem) : Nat → Nat → Int32 → Int32 → Option Int32
  | 0, _, _, _ => none
  | f + 1, a1, x2, x3 =>
    if (σ a1 0) ≤ x3 then
      some (x2)
    else
      bd (X7_reached σ a1 x3 (-1 : Int32)) fun r15 =>
      bd (X11_bit σ x3) fun r19 =>
      if (r15 &&& (r19 ^^^ (-1 : Int32))) = 0 then
        X5_partingPanes_4 σ f a1 x2 (x3 + 1)
      else
        bd (X11_lowest σ (r15 &&& (r19 ^^^ (-1 : Int32)))) fun r35 =>
        bd (X7_reached σ a1 r35 (r15 &&& (r19 ^^^ (-1 : Int32)))) fun r40 =>
        if r40 = (r15 &&& (r19 ^^^ (-1 : Int32))) then
          X5_partingPanes_4 σ f a1 x2 (x3 + 1)
        else
          bd (X11_bit σ x3) fun r50 =>
          X5_partingPanes_4 σ f a1 (x2 ||| r50) (x3 + 1)
def X5_partingPanes (σ : Mem) (a1 : Nat) : Option Int32 :=
  X5_partingPanes_4 σ FU a1 (0 : Int32) (0 : Int32)
def X11_bend (σ : Mem) : Option Int32 :=
  bd (X5_partingPanes σ 9) fun r8 =>
  some (r8)
def X5_waysOutOf_5 (σ : Mem) : Nat → Nat → Int32 → Int32 → Int32 → Option Int32
  | 0, _, _, _, _ => none
  | f + 1, a1, x2, x3, x4 =>
    if (σ a1 0) ≤ x4 then
      some (x3)
    else
      bd (X11_hasBit σ x2 x4) fun r17 =>
      if r17 = 0 then
        X5_waysOutOf_5 σ f a1 x2 x3 (x4 + 1)
      else
        bd (X6_get σ (a1 + 7) x4) fun r30 =>
        bd (J6_bitCount_0f7a4 σ (r30 &&& (x2 ^^^ (-1 : Int32)))) fun r37 =>
        X5_waysOutOf_5 σ f a1 x2 (x3 + r37) (x4 + 1)
def X5_waysOutOf (σ : Mem) (a1 : Nat) (x2 : Int32) : Option Int32 :=
  X5_waysOutOf_5 σ FU a1 x2 (0 : Int32) (0 : Int32)
def X5_fewestClosed_15 (σ : Mem) : Nat → Nat → Int32 → Int32 → Int32 → Int32 → Option Int32
  | 0, _, _, _, _, _ => none
  | f + 1, a1, x2, x3, x4, x5 =>
    bd (X11_bit σ (σ a1 0)) fun r21 =>
    if r21 ≤ x5 then
      some (x4)
    else
      bd (X11_hasBit σ x5 x2) fun r30 =>
      if r30 = 0 then
        X5_fewestClosed_15 σ f a1 x2 x3 x4 (x5 + 1)
      else
        bd (X11_hasBit σ x5 x3) fun r39 =>
        if r39 = 0 then
          bd (X5_waysOutOf σ a1 x5) fun r51 =>
          X5_fewestClosed_15 σ f a1 x2 x3 (if r51 < x4 then r51 else x4) (x5 + 1)
        else
          X5_fewestClosed_15 σ f a1 x2 x3 x4 (x5 + 1)
def X5_fewestClosed (σ : Mem) (a1 : Nat) (x2 : Int32) (x3 : Int32) : Option Int32 :=
  if x2 = x3 then
    some ((-1 : Int32))
  else
    X5_fewestClosed_15 σ FU a1 x2 x3 (1000 : Int32) (0 : Int32)
def X11_closed (σ : Mem) (x1 : Int32) (x2 : Int32) : Option (Int32 ⊕ Nat) :=
  bdx (X11_needPane σ x1) (fun _ =>
    bdx (X11_needPane σ x2) (fun _ =>
      bd (X5_fewestClosed σ 9 x1 x2) fun r20 =>
      some (.inl r20))
     (fun x7_ =>
      some (.inr x7_))
)
   (fun x2_ =>
    some (.inr x2_))

def X1_fewestMadeUp_41 (rc5 : Nat → Nat → Int32 → Int32 → Mem → Option (Int32 × Mem)) (a1 : Nat) (a2 : Nat) (x3 : Int32) (x4 : Int32) (y0 : Int32) (σ : Mem) : Option (Int32 × Mem) :=
  if y0 = 0 then
    rc5 a1 a2 x3 (x4 + 1) σ
  else
    bd2 (X1_canLight a1 a2 x4 σ) fun r53 σ53 =>
    if r53 = 0 then
      bd2 (X1_whyDark a1 a2 x4 σ53) fun r64 σ64 =>
      if r64 = 0 then
        some ((-1 : Int32), σ64)
      else
        rc5 a1 a2 (x3 + 1) (x4 + 1) σ64
    else
      rc5 a1 a2 x3 (x4 + 1) σ53
def X1_fewestMadeUp_40 (rc5 : Nat → Nat → Int32 → Int32 → Mem → Option (Int32 × Mem)) (a1 : Nat) (a2 : Nat) (x3 : Int32) (x4 : Int32) (σ : Mem) : Option (Int32 × Mem) :=
  X1_fewestMadeUp_41 rc5 a1 a2 x3 x4 (0 : Int32) σ
def X1_fewestMadeUp_5 : Nat → Nat → Nat → Int32 → Int32 → Mem → Option (Int32 × Mem)
  | 0, _, _, _, _, _ => none
  | f + 1, a1, a2, x3, x4, σ =>
    if (σ a1 0) ≤ x4 then
      some (x3, σ)
    else
      bd (X7_isBurning σ a1 x4) fun r17 =>
      if r17 = 0 then
        bd (X6_get σ (a1 + 3) x4) fun r29 =>
        if r29 = (-1 : Int32) then
          X1_fewestMadeUp_40 (X1_fewestMadeUp_5 f) a1 a2 x3 x4 σ
        else
          X1_fewestMadeUp_41 (X1_fewestMadeUp_5 f) a1 a2 x3 x4 (1 : Int32) σ
      else
        X1_fewestMadeUp_40 (X1_fewestMadeUp_5 f) a1 a2 x3 x4 σ
def X1_fewestMadeUp (a1 : Nat) (a2 : Nat) (σ : Mem) : Option (Int32 × Mem) :=
  X1_fewestMadeUp_5 FU a1 a2 (0 : Int32) (0 : Int32) σ
def X11_madeUp (σ : Mem) : Option (Int32 × Mem) :=
  bd2 (X1_fewestMadeUp 9 72 σ) fun r12 σ12 =>
  some (r12, σ12)
def X5_isWalk_17 (σ : Mem) : Nat → Nat → Int32 → Int32 → Option Int32
  | 0, _, _, _ => none
  | f + 1, a1, x3, x4 =>
    if x3 ≤ x4 then
      bd (gb (1 : Int32)) fun _ =>
      some ((1 : Int32))
    else
      bd (X10_byteAt σ x4) fun r26 =>
      if (σ a1 0) ≤ r26 then
        bd (gb (0 : Int32)) fun _ =>
        some ((0 : Int32))
      else
        bd (X10_byteAt σ (x4 + (1 : Int32))) fun r41 =>
        if r41 ≤ (20 : Int32) then
          X5_isWalk_17 σ f a1 x3 (x4 + 2)
        else
          bd (gb (0 : Int32)) fun _ =>
          some ((0 : Int32))
def X5_isWalk (σ : Mem) (a1 : Nat) (x3 : Int32) : Option Int32 :=
  if (40 : Int32) < x3 then
    bd (gb (0 : Int32)) fun _ =>
    some ((0 : Int32))
  else
    if (x3 - x3 / (2 : Int32) * (2 : Int32)) = 0 then
      X5_isWalk_17 σ FU a1 x3 (0 : Int32)
    else
      bd (gb (0 : Int32)) fun _ =>
      some ((0 : Int32))
def J7_fill_53178_5 : Nat → Nat → Int32 → Int32 → Int32 → Mem → Option Mem
  | 0, _, _, _, _, _ => none
  | f + 1, a0, x1, x2, x3, σ =>
    if x3 ≤ x2 then
      some σ
    else
      bd (au σ a0 x2 x1) fun σ13 =>
      J7_fill_53178_5 f a0 x1 (x2 + 1) x3 σ13
def J7_fill_53178 (a0 : Nat) (x1 : Int32) (σ : Mem) : Option Mem :=
  J7_fill_53178_5 FU a0 x1 (0 : Int32) (nI (ln a0)) σ
def X6_fill (a0 : Nat) (x1 : Int32) (σ : Mem) : Option Mem :=
  bd (J7_fill_53178 (a0 + 1) x1 σ) fun σ5 =>
  some σ5
def X5_placesAfterWalk_77 : Nat → Nat → Int32 → Int32 → Mem → Option (Int32 × Mem)
  | 0, _, _, _, _ => none
  | f + 1, a1, x4, x5, σ =>
    if x5 ≤ 0 then
      bd (X6_get σ 392 (0 : Int32)) fun r120 =>
      some ((x4 &&& r120), σ)
    else
      bd (X6_get σ 392 x5) fun r90 =>
      bd (X7_around σ a1 (x4 &&& r90)) fun r101 =>
      X5_placesAfterWalk_77 f a1 ((x4 &&& r90) ||| r101) (x5 + (-1)) σ
def X5_placesAfterWalk_23 : Nat → Nat → Int32 → Int32 → Int32 → Mem → Option (Int32 × Mem)
  | 0, _, _, _, _, _ => none
  | f + 1, a1, x3, x4, x5, σ =>
    if x3 ≤ x5 then
      X5_placesAfterWalk_77 FU a1 x4 (20 : Int32) σ
    else
      bd (X10_byteAt σ (x5 + (1 : Int32))) fun r34 =>
      bd (X6_get σ 392 r34) fun r51 =>
      bd (X10_byteAt σ x5) fun r57 =>
      bd (X11_bit σ r57) fun r60 =>
      bd (X6_set 392 r34 (r51 &&& r60) σ) fun σ64 =>
      X5_placesAfterWalk_23 f a1 x3 x4 (x5 + 2) σ64
def X5_placesAfterWalk (a1 : Nat) (x3 : Int32) (σ : Mem) : Option (Int32 × Mem) :=
  bd (X11_bit σ (σ a1 0)) fun r4 =>
  bd (X6_fill 392 (r4 - (1 : Int32)) σ) fun σ17 =>
  X5_placesAfterWalk_23 FU a1 x3 (r4 - (1 : Int32)) (0 : Int32) σ17
def X11_placesTold (σ : Mem) : Option ((Int32 ⊕ Nat) × Mem) :=
  bd2 (X10_useUp σ) fun r4 σ4 =>
  bd (X5_isWalk σ4 9 r4) fun r21 =>
  if r21 = 0 then
    some (.inr 2, σ4)
  else
    bd2 (X5_placesAfterWalk 9 r4 σ4) fun r51 σ51 =>
    some (.inl r51, σ51)
def X11_whoLit (σ : Mem) : Option ((Int32 ⊕ Nat) × Mem) :=
  bdx2 (X11_placesTold σ) (fun r1 σ1 =>
    some (.inl r1, σ1))
   (fun x1_ σ1 =>
    some (.inr x1_, σ1))

def X5_greatestPart_14 : Nat → Nat → Int32 → Int32 → Int32 → Int32 → Mem → Option (Int32 × Mem)
  | 0, _, _, _, _, _, _ => none
  | f + 1, a1, x2, x3, x4, x5, σ =>
    if (σ a1 0) ≤ x5 then
      some (x4, σ)
    else
      bd (X11_hasBit σ x2 x5) fun r26 =>
      if r26 = 0 then
        X5_greatestPart_14 f a1 x2 x3 x4 (x5 + 1) σ
      else
        bd (X7_farOf σ a1 x3 x5) fun r36 =>
        bd (X6_add 394 (r36 - (-1 : Int32)) (1 : Int32) σ) fun σ50 =>
        bd (X6_get σ50 394 (r36 - (-1 : Int32))) fun r61 =>
        X5_greatestPart_14 f a1 x2 x3 (if x4 < r61 then r61 else x4) (x5 + 1) σ50
def X5_greatestPart (a1 : Nat) (x2 : Int32) (x3 : Int32) (σ : Mem) : Option (Int32 × Mem) :=
  bd (X6_fill 394 (0 : Int32) σ) fun σ8 =>
  X5_greatestPart_14 FU a1 x2 x3 (0 : Int32) (0 : Int32) σ8
def X5_paneToAsk_20 : Nat → Nat → Int32 → Int32 → Int32 → Int32 → Mem → Option (Int32 × Mem)
  | 0, _, _, _, _, _, _ => none
  | f + 1, a1, x2, x3, x4, x5, σ =>
    if (σ a1 0) ≤ x5 then
      some (x3, σ)
    else
      bd2 (X5_greatestPart a1 x2 x5 σ) fun r34 σ34 =>
      if x4 ≤ r34 then
        X5_paneToAsk_20 f a1 x2 x3 x4 (x5 + 1) σ34
      else
        X5_paneToAsk_20 f a1 x2 x5 r34 (x5 + 1) σ34
def X5_paneToAsk (a1 : Nat) (x2 : Int32) (σ : Mem) : Option (Int32 × Mem) :=
  bd (J6_bitCount_0f7a4 σ x2) fun r1 =>
  if (2 : Int32) ≤ r1 then
    X5_paneToAsk_20 FU a1 x2 (-1 : Int32) (1000 : Int32) (0 : Int32) σ
  else
    some ((-1 : Int32), σ)
def X11_ask (σ : Mem) : Option ((Int32 ⊕ Nat) × Mem) :=
  bdx2 (X11_placesTold σ) (fun r9 σ9 =>
    bd2 (X5_paneToAsk 9 r9 σ9) fun r12 σ12 =>
    some (.inl r12, σ12))
   (fun x9_ σ9 =>
    some (.inr x9_, σ9))

def X1_comesBack_6 : Nat → Nat → Nat → Int32 → Int32 → Int32 → Mem → Option (Int32 × Mem)
  | 0, _, _, _, _, _, _ => none
  | f + 1, a1, a2, x3, x4, x5, σ =>
    if (6 : Int32) ≤ x5 then
      bd (gb (0 : Int32)) fun _ =>
      some ((0 : Int32), σ)
    else
      bd2 (X1_turnOf a1 a2 x4 σ) fun r18 σ18 =>
      if r18 = (-1 : Int32) then
        bd (gb (0 : Int32)) fun _ =>
        some ((0 : Int32), σ18)
      else
        bd (X6_get σ18 (a1 + 3) r18) fun r37 =>
        if r37 = x3 then
          bd (gb (1 : Int32)) fun _ =>
          some ((1 : Int32), σ18)
        else
          X1_comesBack_6 f a1 a2 x3 r37 (x5 + 1) σ18
def X1_comesBack (a1 : Nat) (a2 : Nat) (x3 : Int32) (σ : Mem) : Option (Int32 × Mem) :=
  X1_comesBack_6 FU a1 a2 x3 x3 (0 : Int32) σ
def X11_ring (x1 : Int32) (σ : Mem) : Option ((Int32 ⊕ Nat) × Mem) :=
  bdx (X11_needWalker σ x1) (fun _ =>
    bd2 (X1_comesBack 9 72 x1 σ) fun r18 σ18 =>
    bd (gb r18) fun _ =>
    some (.inl r18, σ18))
   (fun x2_ =>
    some (.inr x2_, σ))

def X1_likesTogether_17 (σ : Mem) (rc5 : Nat → Int32 → Int32 → Int32 → Option Int32) : Nat → Nat → Int32 → Int32 → Int32 → Int32 → Option Int32
  | 0, _, _, _, _, _ => none
  | f + 1, a1, x2, x3, x4, x5 =>
    if (σ a1 1) ≤ x5 then
      rc5 a1 x2 x3 (x4 + 1)
    else
      if x4 = x5 then
        X1_likesTogether_17 σ rc5 f a1 x2 x3 x4 (x5 + 1)
      else
        bd (X11_hasBit σ x2 x4) fun r36 =>
        bd (X11_hasBit σ x2 x5) fun r42 =>
        if r36 = r42 then
          bd (X7_likesOf σ a1 x4 x5) fun r54 =>
          X1_likesTogether_17 σ rc5 f a1 x2 (x3 + r54) x4 (x5 + 1)
        else
          X1_likesTogether_17 σ rc5 f a1 x2 x3 x4 (x5 + 1)
def X1_likesTogether_5 (σ : Mem) : Nat → Nat → Int32 → Int32 → Int32 → Option Int32
  | 0, _, _, _, _ => none
  | f + 1, a1, x2, x3, x4 =>
    if (σ a1 1) ≤ x4 then
      some (x3)
    else
      X1_likesTogether_17 σ (X1_likesTogether_5 σ f) FU a1 x2 x3 x4 (0 : Int32)
def X1_likesTogether (σ : Mem) (a1 : Nat) (x2 : Int32) : Option Int32 :=
  X1_likesTogether_5 σ FU a1 x2 (0 : Int32) (0 : Int32)
def X1_secondSide_17 (σ : Mem) : Nat → Nat → Int32 → Int32 → Int32 → Option Int32
  | 0, _, _, _, _ => none
  | f + 1, a1, x2, x3, x4 =>
    bd (X11_bit σ (σ a1 1)) fun r23 =>
    if r23 ≤ x4 then
      some (x2)
    else
      bd (X1_likesTogether σ a1 x4) fun r33 =>
      if r33 ≤ x3 then
        X1_secondSide_17 σ f a1 x2 x3 (x4 + 2)
      else
        X1_secondSide_17 σ f a1 x4 r33 (x4 + 2)
def X1_secondSide (σ : Mem) (a1 : Nat) : Option Int32 :=
  if (2 : Int32) ≤ (σ a1 1) then
    X1_secondSide_17 σ FU a1 (-1 : Int32) (-1 : Int32) (2 : Int32)
  else
    some ((-1 : Int32))
def X11_sides (σ : Mem) : Option Int32 :=
  bd (X1_secondSide σ 9) fun r8 =>
  some (r8)
def X1_arePair (σ : Mem) (a1 : Nat) (x2 : Int32) (x3 : Int32) : Option Int32 :=
  bd (X6_get σ (a1 + 9) x2) fun r6 =>
  bd (X6_get σ (a1 + 9) x3) fun r14 =>
  bd (X7_farOf σ a1 r6 r14) fun r17 =>
  if r17 = (-1 : Int32) then
    bd (gb (0 : Int32)) fun _ =>
    some ((0 : Int32))
  else
    bd (gb (1 : Int32)) fun _ =>
    some ((1 : Int32))
def X1_mostWith (σ : Mem) (a1 : Nat) (x2 : Int32) (x3 : Int32) (x4 : Int32) : Option Int32 :=
  bd (X7_likesOf σ a1 x3 x4) fun r4 =>
  bd (X7_likesOf σ a1 x4 x3) fun r11 =>
  bd (X11_bit σ x3) fun r21 =>
  bd (X11_bit σ x4) fun r29 =>
  bd (X6_get σ 397 ((x2 &&& (r21 ^^^ (-1 : Int32))) &&& (r29 ^^^ (-1 : Int32)))) fun r35 =>
  some (((r4 + r11) + r35))
def X1_mostByPairs_40 (rc2 : Nat → Int32 → Mem → Option (Int32 × Mem)) : Nat → Nat → Int32 → Int32 → Int32 → Int32 → Mem → Option (Int32 × Mem)
  | 0, _, _, _, _, _, _ => none
  | f + 1, a1, x2, x3, x4, x5, σ =>
    if (σ a1 1) ≤ x5 then
      bd (X6_set 397 x2 x4 σ) fun σ98 =>
      rc2 a1 (x2 + 1) σ98
    else
      bd (X11_hasBit σ x2 x5) fun r52 =>
      if r52 = 0 then
        X1_mostByPairs_40 rc2 f a1 x2 x3 x4 (x5 + 1) σ
      else
        bd (X1_arePair σ a1 x3 x5) fun r63 =>
        if r63 = 0 then
          X1_mostByPairs_40 rc2 f a1 x2 x3 x4 (x5 + 1) σ
        else
          bd (X1_mostWith σ a1 x2 x3 x5) fun r77 =>
          X1_mostByPairs_40 rc2 f a1 x2 x3 (if x4 < r77 then r77 else x4) (x5 + 1) σ
def X1_mostByPairs_2 : Nat → Nat → Int32 → Mem → Option (Int32 × Mem)
  | 0, _, _, _ => none
  | f + 1, a1, x2, σ =>
    bd (X11_bit σ (σ a1 1)) fun r7 =>
    if r7 ≤ x2 then
      bd (X11_bit σ (σ a1 1)) fun r115 =>
      bd (X6_get σ 397 (r115 - (1 : Int32))) fun r120 =>
      some (r120, σ)
    else
      bd (X11_lowest σ x2) fun r14 =>
      bd (X11_bit σ r14) fun r24 =>
      bd (X6_get σ 397 (x2 &&& (r24 ^^^ (-1 : Int32)))) fun r30 =>
      X1_mostByPairs_40 (X1_mostByPairs_2 f) FU a1 x2 r14 r30 (r14 + (1 : Int32)) σ
def X1_mostByPairs (a1 : Nat) (σ : Mem) : Option (Int32 × Mem) :=
  X1_mostByPairs_2 FU a1 (1 : Int32) σ
def X1_firstPartner_33 (σ : Mem) : Nat → Nat → Int32 → Int32 → Int32 → Option Int32
  | 0, _, _, _, _ => none
  | f + 1, a1, x2, x3, x4 =>
    if (σ a1 1) ≤ x4 then
      some ((-1 : Int32))
    else
      bd (X11_hasBit σ x2 x4) fun r45 =>
      if r45 = 0 then
        X1_firstPartner_33 σ f a1 x2 x3 (x4 + 1)
      else
        bd (X1_arePair σ a1 x3 x4) fun r56 =>
        if r56 = 0 then
          X1_firstPartner_33 σ f a1 x2 x3 (x4 + 1)
        else
          bd (X1_mostWith σ a1 x2 x3 x4) fun r68 =>
          bd (X6_get σ 397 x2) fun r76 =>
          if r68 = r76 then
            some (x4)
          else
            X1_firstPartner_33 σ f a1 x2 x3 (x4 + 1)
def X1_firstPartner (σ : Mem) (a1 : Nat) (x2 : Int32) (x3 : Int32) : Option Int32 :=
  bd (X11_bit σ x3) fun r6 =>
  bd (X6_get σ 397 (x2 &&& (r6 ^^^ (-1 : Int32)))) fun r12 =>
  bd (X6_get σ 397 x2) fun r20 =>
  if r12 = r20 then
    some ((-1 : Int32))
  else
    X1_firstPartner_33 σ FU a1 x2 x3 (x3 + (1 : Int32))
def X1_partnerOf_19 : Nat → Nat → Int32 → Int32 → Int32 → Mem → Option (Int32 × Mem)
  | 0, _, _, _, _, _ => none
  | f + 1, a1, x2, x3, x4, σ =>
    if (σ a1 1) ≤ x4 then
      some ((-1 : Int32), σ)
    else
      bd (X11_hasBit σ x3 x4) fun r31 =>
      if r31 = 0 then
        X1_partnerOf_19 f a1 x2 x3 (x4 + 1) σ
      else
        bd (X1_firstPartner σ a1 x3 x4) fun r42 =>
        if x4 = x2 then
          some (r42, σ)
        else
          if r42 = x2 then
            some (x4, σ)
          else
            bd (X11_bit σ x4) fun r68 =>
            if r42 = (-1 : Int32) then
              X1_partnerOf_19 f a1 x2 (x3 &&& (r68 ^^^ (-1 : Int32))) (x4 + 1) σ
            else
              bd (X11_bit σ r42) fun r84 =>
              bd (some (((x3 &&& (r68 ^^^ (-1 : Int32))) &&& (r84 ^^^ (-1 : Int32))))) fun v90 =>
              X1_partnerOf_19 f a1 x2 v90 (x4 + 1) σ
def X1_partnerOf (a1 : Nat) (x2 : Int32) (σ : Mem) : Option (Int32 × Mem) :=
  bd2 (X1_mostByPairs a1 σ) fun r2 σ2 =>
  bd (X11_bit σ2 (σ2 a1 1)) fun r10 =>
  X1_partnerOf_19 FU a1 x2 (r10 - (1 : Int32)) (0 : Int32) σ2
def X11_pairs (x1 : Int32) (σ : Mem) : Option ((Int32 ⊕ Nat) × Mem) :=
  if x1 = (-1 : Int32) then
    bd2 (X1_mostByPairs 9 σ) fun r13 σ13 =>
    some (.inl r13, σ13)
  else
    bdx (X11_needWalker σ x1) (fun _ =>
      bd2 (X1_partnerOf 9 x1 σ) fun r31 σ31 =>
      some (.inl r31, σ31))
     (fun x19_ =>
      some (.inr x19_, σ))

def X1_areRows_17 (σ : Mem) : Nat → Nat → Int32 → Int32 → Option Int32
  | 0, _, _, _ => none
  | f + 1, a1, x3, x4 =>
    if x3 ≤ x4 then
      bd (gb (1 : Int32)) fun _ =>
      some ((1 : Int32))
    else
      bd (X10_byteAt σ x4) fun r26 =>
      bd (X10_byteAt σ (x4 + (1 : Int32))) fun r36 =>
      if (σ a1 1) ≤ r26 then
        bd (gb (0 : Int32)) fun _ =>
        some ((0 : Int32))
      else
        if (σ a1 0) ≤ r36 then
          bd (gb (0 : Int32)) fun _ =>
          some ((0 : Int32))
        else
          bd (X10_byteAt σ (x4 + (2 : Int32))) fun r64 =>
          if r64 ≤ (1 : Int32) then
            bd (X6_get σ (a1 + 3) r36) fun r79 =>
            if r79 = (-1 : Int32) then
              bd (gb (0 : Int32)) fun _ =>
              some ((0 : Int32))
            else
              if r79 = r26 then
                bd (gb (0 : Int32)) fun _ =>
                some ((0 : Int32))
              else
                X1_areRows_17 σ f a1 x3 (x4 + 3)
          else
            bd (gb (0 : Int32)) fun _ =>
            some ((0 : Int32))
def X1_areRows (σ : Mem) (a1 : Nat) (x3 : Int32) : Option Int32 :=
  if (39 : Int32) < x3 then
    bd (gb (0 : Int32)) fun _ =>
    some ((0 : Int32))
  else
    if (x3 - x3 / (3 : Int32) * (3 : Int32)) = 0 then
      X1_areRows_17 σ FU a1 x3 (0 : Int32)
    else
      bd (gb (0 : Int32)) fun _ =>
      some ((0 : Int32))
section WALK
variable {p : Program} {l : Launch} {e : Env} {s : State} {m : MethodId} {args : Array Value} {below : List Frame} {meth : Method} {c : Code} {E : GE}
set_option maxRecDepth 20000 in
theorem w_X5_stepsBy {r : Int32} {σ : Mem} {x1 : Int32} {x2 : Int32} {x3 : Int32} {ls : Array Slot} {H : Heap} {locs : List Loc} (C : Cx p s m args meth c cX5_stepsBy (some .int) 5 RX5) (G : Gf E s) (X : Hx E σ s H locs) (hl : lv_has ls 5 [(0, .ref (gB E + 387)), (1, .int x1), (2, .int x2), (3, .int x3)]) (h : X5_stepsBy σ x1 x2 x3 = some r) : W p l e (RM 2) s m args below meth c H locs 0 0 (QI E below args s r σ) (F0 m 0 ls []) := by
  rw [X5_stepsBy] at h
  refine lv_iload_n C.1 C.2.1 dX5_stepsBy_0 rfl (lv_at hl 1 rfl) ?_
  refine lv_iload_n C.1 C.2.1 dX5_stepsBy_1 rfl (lv_at hl 3 rfl) ?_
  obtain ⟨r2, e2, h⟩ := bnd h
  refine afI X (runN C G X q_X11_bit k_506 nw_12 (c_X11_bit l E e2) rfl hl.1 rfl (Nat.le_of_ble_eq_true rfl) ⟨Nat.le_of_ble_eq_true rfl, Nat.le_of_ble_eq_true rfl⟩ ⟨Nat.le_of_ble_eq_true rfl, Nat.le_of_ble_eq_true rfl⟩ dX5_stepsBy_2) (fun H locs X => ?_)
  refine lv_iconst (v := -1) C.1 C.2.1 dX5_stepsBy_5 (by decide) ?_
  refine lv_ixor C.1 C.2.1 dX5_stepsBy_6 ?_
  refine lv_iand C.1 C.2.1 dX5_stepsBy_7 ?_
  refine lv_istore (lv' := [(4, .int (x1 &&& (r2 ^^^ (-1 : Int32)))), (0, .ref (gB E + 387)), (1, .int x1), (2, .int x2), (3, .int x3)]) C.1 C.2.1 dX5_stepsBy_8 hl (by decide) rfl (fun ls hl => ?_)
  refine lv_aload_n C.1 C.2.1 dX5_stepsBy_10 rfl (lv_at hl 1 rfl) ?_
  refine gfX5 C G X (k := 387) kd_387 0 (v := .ref (gB E + 388)) rfl rfl (by decide) k_380 rfl dX5_stepsBy_11 ?_
  refine lv_iload_n C.1 C.2.1 dX5_stepsBy_14 rfl (lv_at hl 3 rfl) ?_
  refine lv_bipush (v := 9) C.1 C.2.1 dX5_stepsBy_15 (by decide) ?_
  refine lv_imul C.1 C.2.1 dX5_stepsBy_17 ?_
  refine lv_iload_n C.1 C.2.1 dX5_stepsBy_18 rfl (lv_at hl 4 rfl) ?_
  refine lv_iadd C.1 C.2.1 dX5_stepsBy_19 ?_
  obtain ⟨r20, e20, h⟩ := bnd h
  refine afI X (runV C G X q_X6_get k_498 k_499 k_1433 (rcX6 G X kd_388) (c_X6_get l E kd_388 e20) rfl hl.1 rfl (Nat.le_of_ble_eq_true rfl) ⟨Nat.le_of_ble_eq_true rfl, Nat.le_of_ble_eq_true rfl⟩ ⟨Nat.le_of_ble_eq_true rfl, Nat.le_of_ble_eq_true rfl⟩ dX5_stepsBy_20) (fun H locs X => ?_)
  refine lv_aload_n C.1 C.2.1 dX5_stepsBy_23 rfl (lv_at hl 1 rfl) ?_
  refine gfX5 C G X (k := 387) kd_387 1 (v := .ref (gB E + 390)) rfl rfl (by decide) k_381 rfl dX5_stepsBy_24 ?_
  refine lv_iload C.1 C.2.1 dX5_stepsBy_27 (lv_at hl 0 rfl) ?_
  refine lv_bipush (v := 9) C.1 C.2.1 dX5_stepsBy_29 (by decide) ?_
  refine lv_imul C.1 C.2.1 dX5_stepsBy_31 ?_
  refine lv_iload_n C.1 C.2.1 dX5_stepsBy_32 rfl (lv_at hl 4 rfl) ?_
  refine lv_iadd C.1 C.2.1 dX5_stepsBy_33 ?_
  obtain ⟨r34, e34, h⟩ := bnd h
  refine afI X (runV C G X q_X6_get k_498 k_499 k_1433 (rcX6 G X kd_390) (c_X6_get l E kd_390 e34) rfl hl.1 rfl (Nat.le_of_ble_eq_true rfl) ⟨Nat.le_of_ble_eq_true rfl, Nat.le_of_ble_eq_true rfl⟩ ⟨Nat.le_of_ble_eq_true rfl, Nat.le_of_ble_eq_true rfl⟩ dX5_stepsBy_34) (fun H locs X => ?_)
  refine lv_iadd C.1 C.2.1 dX5_stepsBy_37 ?_
  rw [← Option.some.inj h]
  exact rtI C X dX5_stepsBy_38

theorem c_X5_stepsBy (l : Launch) (E : GE) {σ : Mem} {x1 : Int32} {x2 : Int32} {x3 : Int32} {r : Int32} (h : X5_stepsBy σ x1 x2 x3 = some r) : CtI l E yX5_stepsBy cX5_stepsBy 5 .int 2 [.ref (gB E + 387), .int x1, .int x2, .int x3] σ r σ := by
  refine Met.ofW (cc := cX5_stepsBy) (maxL := 5) (ret := (some .int)) (by decide) rfl ?_
  intro p e s m args below meth c s₁ B hml hv
  obtain ⟨rfl, G, X⟩ := start hv
  have C := cxof B hml
  have hl := lv_entry [.ref (gB E + 387), .int x1, .int x2, .int x3] (n := 5) (Nat.le_of_ble_eq_true rfl)
  rw [lg_entry_eq]
  generalize (lg_sl [.ref (gB E + 387), .int x1, .int x2, .int x3] ++ List.replicate (5 - (lg_sl [.ref (gB E + 387), .int x1, .int x2, .int x3]).length) Slot.unset).toArray = ls at hl ⊢
  exact w_X5_stepsBy C G X hl h

set_option maxRecDepth 20000 in
theorem w_X5_fewestSteps_7 {r : Int32} {σ : Mem} (C : Cx p s m args meth c cX5_fewestSteps (some .int) 5 RX5) (G : Gf E s) : ∀ (f : Nat) {x1 : Int32} {x2 : Int32} {x3 : Int32} {x4 : Int32} {ls : Array Slot} {H : Heap} {locs : List Loc}, Hx E σ s H locs → lv_has ls 5 [(0, .ref (gB E + 387)), (1, .int x1), (2, .int x2), (3, .int x3), (4, .int x4)] → X5_fewestSteps_7 σ f x1 x2 x3 x4 = some r → W p l e (RM 3) s m args below meth c H locs 0 0 (QI E below args s r σ) (F0 m 7 ls []) := by
  intro f
  induction f with
  | zero =>
    intro x1 x2 x3 x4 ls H locs X hl h
    rw [X5_fewestSteps_7] at h
    cases h
  | succ f ih =>
    intro x1 x2 x3 x4 ls H locs X hl h
    rw [X5_fewestSteps_7] at h
    refine lv_iload C.1 C.2.1 dX5_fewestSteps_7 (lv_at hl 4 rfl) ?_
    refine lv_bipush (v := 9) C.1 C.2.1 dX5_fewestSteps_9 (by decide) ?_
    refine lv_icmp_ge (tgt := 42) C.1 C.2.1 dX5_fewestSteps_11 (by decide) (fun c11 => ?_) (fun c11 => ?_)
    · replace h := ipos c11 h
      refine lv_iload_n C.1 C.2.1 dX5_fewestSteps_42 rfl (lv_at hl 3 rfl) ?_
      rw [← Option.some.inj h]
      exact rtI C X dX5_fewestSteps_43
    · replace h := ineg c11 h
      refine lv_iload_n C.1 C.2.1 dX5_fewestSteps_14 rfl (lv_at hl 1 rfl) ?_
      refine lv_iload C.1 C.2.1 dX5_fewestSteps_15 (lv_at hl 4 rfl) ?_
      obtain ⟨r17, e17, h⟩ := bnd h
      refine afI X (runN C G X q_X11_hasBit k_509 nw_13 (c_X11_hasBit l E e17) rfl hl.1 rfl (Nat.le_of_ble_eq_true rfl) ⟨Nat.le_of_ble_eq_true rfl, Nat.le_of_ble_eq_true rfl⟩ ⟨Nat.le_of_ble_eq_true rfl, Nat.le_of_ble_eq_true rfl⟩ dX5_fewestSteps_17) (fun H locs X => ?_)
      refine lv_if_eq (tgt := 36) C.1 C.2.1 dX5_fewestSteps_20 (by decide) (fun c20 => ?_) (fun c20 => ?_)
      · replace h := ipos c20 h
        refine lv_iinc (v := (x4 + 1)) (lv' := [(4, .int (x4 + 1)), (0, .ref (gB E + 387)), (1, .int x1), (2, .int x2), (3, .int x3)]) C.1 C.2.1 dX5_fewestSteps_36 hl (k := 4) rfl rfl (by decide) rfl (fun ls hl => ?_)
        refine lv_goto (tgt := 7) C.1 C.2.1 dX5_fewestSteps_39 (by decide) ?_
        exact ih X (lv_sub hl [1, 2, 3, 4, 0] rfl) h
      · replace h := ineg c20 h
        refine lv_iload_n C.1 C.2.1 dX5_fewestSteps_23 rfl (lv_at hl 3 rfl) ?_
        refine lv_aload_n C.1 C.2.1 dX5_fewestSteps_24 rfl (lv_at hl 0 rfl) ?_
        refine lv_iload_n C.1 C.2.1 dX5_fewestSteps_25 rfl (lv_at hl 1 rfl) ?_
        refine lv_iload_n C.1 C.2.1 dX5_fewestSteps_26 rfl (lv_at hl 2 rfl) ?_
        refine lv_iload C.1 C.2.1 dX5_fewestSteps_27 (lv_at hl 4 rfl) ?_
        obtain ⟨r29, e29, h⟩ := bnd h
        refine afI X (runV C G X q_X5_stepsBy k_1431 kp_18 k_1429 (rcX5 G X kd_387) (c_X5_stepsBy l E e29) rfl hl.1 rfl (Nat.le_of_ble_eq_true rfl) ⟨Nat.le_of_ble_eq_true rfl, Nat.le_of_ble_eq_true rfl⟩ ⟨Nat.le_of_ble_eq_true rfl, Nat.le_of_ble_eq_true rfl⟩ dX5_fewestSteps_29) (fun H locs X => ?_)
        refine mmin C hl.1 (cells := 0) k_1434 ⟨Nat.le_of_ble_eq_true rfl, Nat.le_of_ble_eq_true rfl, Nat.le_of_ble_eq_true rfl, Nat.le_of_ble_eq_true rfl⟩ dX5_fewestSteps_32 ?_
        refine lv_istore_n (lv' := [(3, .int (if r29 < x3 then r29 else x3)), (0, .ref (gB E + 387)), (1, .int x1), (2, .int x2), (4, .int x4)]) C.1 C.2.1 dX5_fewestSteps_35 rfl hl (by decide) rfl (fun ls hl => ?_)
        refine lv_iinc (v := (x4 + 1)) (lv' := [(4, .int (x4 + 1)), (3, .int (if r29 < x3 then r29 else x3)), (0, .ref (gB E + 387)), (1, .int x1), (2, .int x2)]) C.1 C.2.1 dX5_fewestSteps_36 hl (k := 4) rfl rfl (by decide) rfl (fun ls hl => ?_)
        refine lv_goto (tgt := 7) C.1 C.2.1 dX5_fewestSteps_39 (by decide) ?_
        exact ih X (lv_sub hl [2, 3, 4, 1, 0] rfl) h

set_option maxRecDepth 20000 in
theorem w_X5_fewestSteps {r : Int32} {σ : Mem} {x1 : Int32} {x2 : Int32} {ls : Array Slot} {H : Heap} {locs : List Loc} (C : Cx p s m args meth c cX5_fewestSteps (some .int) 5 RX5) (G : Gf E s) (X : Hx E σ s H locs) (hl : lv_has ls 5 [(0, .ref (gB E + 387)), (1, .int x1), (2, .int x2)]) (h : X5_fewestSteps σ x1 x2 = some r) : W p l e (RM 3) s m args below meth c H locs 0 0 (QI E below args s r σ) (F0 m 0 ls []) := by
  rw [X5_fewestSteps] at h
  refine lv_sipush (v := 1000) C.1 C.2.1 dX5_fewestSteps_0 (by decide) ?_
  refine lv_istore_n (lv' := [(3, .int (1000 : Int32)), (0, .ref (gB E + 387)), (1, .int x1), (2, .int x2)]) C.1 C.2.1 dX5_fewestSteps_3 rfl hl (by decide) rfl (fun ls hl => ?_)
  refine lv_iconst (v := 0) C.1 C.2.1 dX5_fewestSteps_4 (by decide) ?_
  refine lv_istore (lv' := [(4, .int (0 : Int32)), (3, .int (1000 : Int32)), (0, .ref (gB E + 387)), (1, .int x1), (2, .int x2)]) C.1 C.2.1 dX5_fewestSteps_5 hl (by decide) rfl (fun ls hl => ?_)
  exact w_X5_fewestSteps_7 C G FU X (lv_sub hl [2, 3, 4, 1, 0] rfl) h

theorem c_X5_fewestSteps (l : Launch) (E : GE) {σ : Mem} {x1 : Int32} {x2 : Int32} {r : Int32} (h : X5_fewestSteps σ x1 x2 = some r) : CtI l E yX5_fewestSteps cX5_fewestSteps 5 .int 3 [.ref (gB E + 387), .int x1, .int x2] σ r σ := by
  refine Met.ofW (cc := cX5_fewestSteps) (maxL := 5) (ret := (some .int)) (by decide) rfl ?_
  intro p e s m args below meth c s₁ B hml hv
  obtain ⟨rfl, G, X⟩ := start hv
  have C := cxof B hml
  have hl := lv_entry [.ref (gB E + 387), .int x1, .int x2] (n := 5) (Nat.le_of_ble_eq_true rfl)
  rw [lg_entry_eq]
  generalize (lg_sl [.ref (gB E + 387), .int x1, .int x2] ++ List.replicate (5 - (lg_sl [.ref (gB E + 387), .int x1, .int x2]).length) Slot.unset).toArray = ls at hl ⊢
  exact w_X5_fewestSteps C G X hl h

set_option maxRecDepth 20000 in
theorem w_X5_roundSteps_41 {r : (Int32 × Mem)} {rc23 : Nat → Int32 → Int32 → Int32 → Mem → Option (Int32 × Mem)} (C : Cx p s m args meth c cX5_roundSteps (some .int) 6 RX5) (G : Gf E s) (hr23 : ∀ {a1 : Nat} {x2 : Int32} {x3 : Int32} {x4 : Int32} {σ : Mem} {ls : Array Slot} {H : Heap} {locs : List Loc}, Hx E σ s H locs → kd a1 = 2 → lv_has ls 6 [(0, .ref (gB E + 387)), (1, .ref (gB E + a1)), (2, .int x2), (3, .int x3), (4, .int x4)] → rc23 a1 x2 x3 x4 σ = some r → W p l e (RM 5) s m args below meth c H locs 0 0 (QI E below args s r.1 r.2) (F0 m 23 ls [])) : ∀ (f : Nat) {a1 : Nat} {x2 : Int32} {x3 : Int32} {x4 : Int32} {x5 : Int32} {σ : Mem} {ls : Array Slot} {H : Heap} {locs : List Loc}, Hx E σ s H locs → kd a1 = 2 → lv_has ls 6 [(0, .ref (gB E + 387)), (1, .ref (gB E + a1)), (2, .int x2), (3, .int x3), (4, .int x4), (5, .int x5)] → X5_roundSteps_41 rc23 f a1 x2 x3 x4 x5 σ = some r → W p l e (RM 5) s m args below meth c H locs 0 0 (QI E below args s r.1 r.2) (F0 m 41 ls []) := by
  intro f
  induction f with
  | zero =>
    intro a1 x2 x3 x4 x5 σ ls H locs X hk_a1 hl h
    rw [X5_roundSteps_41] at h
    cases h
  | succ f ih =>
    intro a1 x2 x3 x4 x5 σ ls H locs X hk_a1 hl h
    rw [X5_roundSteps_41] at h
    refine lv_iload C.1 C.2.1 dX5_roundSteps_41 (lv_at hl 5 rfl) ?_
    refine lv_aload_n C.1 C.2.1 dX5_roundSteps_43 rfl (lv_at hl 1 rfl) ?_
    refine gfX7 C G X (k := a1) hk_a1 0 (v := .int (σ a1 0)) rfl rfl (by decide) k_199 rfl dX5_roundSteps_44 ?_
    refine lv_icmp_ge (tgt := 79) C.1 C.2.1 dX5_roundSteps_47 (by decide) (fun c47 => ?_) (fun c47 => ?_)
    · replace h := ipos c47 h
      refine lv_iinc (v := (x4 + 1)) (lv' := [(4, .int (x4 + 1)), (0, .ref (gB E + 387)), (1, .ref (gB E + a1)), (2, .int x2), (3, .int x3), (5, .int x5)]) C.1 C.2.1 dX5_roundSteps_79 hl (k := 4) rfl rfl (by decide) rfl (fun ls hl => ?_)
      refine lv_goto (tgt := 23) C.1 C.2.1 dX5_roundSteps_82 (by decide) ?_
      exact hr23 X hk_a1 (lv_sub hl [1, 2, 3, 4, 0] rfl) h
    · replace h := ineg c47 h
      refine lv_aload_n C.1 C.2.1 dX5_roundSteps_50 rfl (lv_at hl 0 rfl) ?_
      refine gfX5 C G X (k := 387) kd_387 1 (v := .ref (gB E + 390)) rfl rfl (by decide) k_381 rfl dX5_roundSteps_51 ?_
      refine lv_iload C.1 C.2.1 dX5_roundSteps_54 (lv_at hl 4 rfl) ?_
      refine lv_bipush (v := 9) C.1 C.2.1 dX5_roundSteps_56 (by decide) ?_
      refine lv_imul C.1 C.2.1 dX5_roundSteps_58 ?_
      refine lv_iload C.1 C.2.1 dX5_roundSteps_59 (lv_at hl 5 rfl) ?_
      refine lv_iadd C.1 C.2.1 dX5_roundSteps_61 ?_
      refine lv_aload_n C.1 C.2.1 dX5_roundSteps_62 rfl (lv_at hl 0 rfl) ?_
      refine lv_iload C.1 C.2.1 dX5_roundSteps_63 (lv_at hl 4 rfl) ?_
      refine lv_iload C.1 C.2.1 dX5_roundSteps_65 (lv_at hl 5 rfl) ?_
      obtain ⟨r67, e67, h⟩ := bnd h
      refine afI X (runV C G X q_X5_fewestSteps k_1427 kp_17 k_1425 (rcX5 G X kd_387) (c_X5_fewestSteps l E e67) rfl hl.1 rfl (Nat.le_of_ble_eq_true rfl) ⟨Nat.le_of_ble_eq_true rfl, Nat.le_of_ble_eq_true rfl⟩ ⟨Nat.le_of_ble_eq_true rfl, Nat.le_of_ble_eq_true rfl⟩ dX5_roundSteps_67) (fun H locs X => ?_)
      obtain ⟨σ70, e70, h⟩ := bnd h
      refine afV X (runV C G X q_X6_set k_451 k_452 k_1424 (rcX6 G X kd_390) (c_X6_set l E kd_390 e70) rfl hl.1 rfl (Nat.le_of_ble_eq_true rfl) ⟨Nat.le_of_ble_eq_true rfl, Nat.le_of_ble_eq_true rfl⟩ ⟨Nat.le_of_ble_eq_true rfl, Nat.le_of_ble_eq_true rfl⟩ dX5_roundSteps_70) (fun H locs X => ?_)
      refine lv_iinc (v := (x5 + 1)) (lv' := [(5, .int (x5 + 1)), (0, .ref (gB E + 387)), (1, .ref (gB E + a1)), (2, .int x2), (3, .int x3), (4, .int x4)]) C.1 C.2.1 dX5_roundSteps_73 hl (k := 5) rfl rfl (by decide) rfl (fun ls hl => ?_)
      refine lv_goto (tgt := 41) C.1 C.2.1 dX5_roundSteps_76 (by decide) ?_
      exact ih X hk_a1 (lv_sub hl [1, 2, 3, 4, 5, 0] rfl) h

set_option maxRecDepth 20000 in
theorem w_X5_roundSteps_23 {r : (Int32 × Mem)} (C : Cx p s m args meth c cX5_roundSteps (some .int) 6 RX5) (G : Gf E s) : ∀ (f : Nat) {a1 : Nat} {x2 : Int32} {x3 : Int32} {x4 : Int32} {σ : Mem} {ls : Array Slot} {H : Heap} {locs : List Loc}, Hx E σ s H locs → kd a1 = 2 → lv_has ls 6 [(0, .ref (gB E + 387)), (1, .ref (gB E + a1)), (2, .int x2), (3, .int x3), (4, .int x4)] → X5_roundSteps_23 f a1 x2 x3 x4 σ = some r → W p l e (RM 5) s m args below meth c H locs 0 0 (QI E below args s r.1 r.2) (F0 m 23 ls []) := by
  intro f
  induction f with
  | zero =>
    intro a1 x2 x3 x4 σ ls H locs X hk_a1 hl h
    rw [X5_roundSteps_23] at h
    cases h
  | succ f ih =>
    intro a1 x2 x3 x4 σ ls H locs X hk_a1 hl h
    rw [X5_roundSteps_23] at h
    refine lv_iload C.1 C.2.1 dX5_roundSteps_23 (lv_at hl 4 rfl) ?_
    refine lv_iload_n C.1 C.2.1 dX5_roundSteps_25 rfl (lv_at hl 3 rfl) ?_
    refine lv_icmp_gt (tgt := 85) C.1 C.2.1 dX5_roundSteps_26 (by decide) (fun c26 => ?_) (fun c26 => ?_)
    · replace h := ipos c26 h
      refine lv_aload_n C.1 C.2.1 dX5_roundSteps_85 rfl (lv_at hl 0 rfl) ?_
      refine gfX5 C G X (k := 387) kd_387 1 (v := .ref (gB E + 390)) rfl rfl (by decide) k_381 rfl dX5_roundSteps_86 ?_
      refine lv_iload_n C.1 C.2.1 dX5_roundSteps_89 rfl (lv_at hl 3 rfl) ?_
      refine lv_bipush (v := 9) C.1 C.2.1 dX5_roundSteps_90 (by decide) ?_
      refine lv_imul C.1 C.2.1 dX5_roundSteps_92 ?_
      refine lv_iload_n C.1 C.2.1 dX5_roundSteps_93 rfl (lv_at hl 2 rfl) ?_
      refine lv_iadd C.1 C.2.1 dX5_roundSteps_94 ?_
      obtain ⟨r95, e95, h⟩ := bnd h
      refine afI X (runV C G X q_X6_get k_498 k_499 k_1433 (rcX6 G X kd_390) (c_X6_get l E kd_390 e95) rfl hl.1 rfl (Nat.le_of_ble_eq_true rfl) ⟨Nat.le_of_ble_eq_true rfl, Nat.le_of_ble_eq_true rfl⟩ ⟨Nat.le_of_ble_eq_true rfl, Nat.le_of_ble_eq_true rfl⟩ dX5_roundSteps_95) (fun H locs X => ?_)
      rw [← Option.some.inj h]
      exact rtI C X dX5_roundSteps_98
    · replace h := ineg c26 h
      refine lv_iload C.1 C.2.1 dX5_roundSteps_29 (lv_at hl 4 rfl) ?_
      refine lv_iload_n C.1 C.2.1 dX5_roundSteps_31 rfl (lv_at hl 3 rfl) ?_
      refine lv_iconst (v := -1) C.1 C.2.1 dX5_roundSteps_32 (by decide) ?_
      refine lv_ixor C.1 C.2.1 dX5_roundSteps_33 ?_
      refine lv_iand C.1 C.2.1 dX5_roundSteps_34 ?_
      refine lv_if_ne (tgt := 79) C.1 C.2.1 dX5_roundSteps_35 (by decide) (fun c35 => ?_) (fun c35 => ?_)
      · replace h := ineg c35 h
        refine lv_iinc (v := (x4 + 1)) (lv' := [(4, .int (x4 + 1)), (0, .ref (gB E + 387)), (1, .ref (gB E + a1)), (2, .int x2), (3, .int x3)]) C.1 C.2.1 dX5_roundSteps_79 hl (k := 4) rfl rfl (by decide) rfl (fun ls hl => ?_)
        refine lv_goto (tgt := 23) C.1 C.2.1 dX5_roundSteps_82 (by decide) ?_
        exact ih X hk_a1 (lv_sub hl [1, 2, 3, 4, 0] rfl) h
      · replace h := ipos c35 h
        refine lv_iconst (v := 0) C.1 C.2.1 dX5_roundSteps_38 (by decide) ?_
        refine lv_istore (lv' := [(5, .int (0 : Int32)), (0, .ref (gB E + 387)), (1, .ref (gB E + a1)), (2, .int x2), (3, .int x3), (4, .int x4)]) C.1 C.2.1 dX5_roundSteps_39 hl (by decide) rfl (fun ls hl => ?_)
        exact w_X5_roundSteps_41 C G ih FU X hk_a1 (lv_sub hl [1, 2, 3, 4, 5, 0] rfl) h

set_option maxRecDepth 20000 in
theorem w_X5_roundSteps {r : (Int32 × Mem)} {σ : Mem} {a1 : Nat} {x2 : Int32} {x3 : Int32} {ls : Array Slot} {H : Heap} {locs : List Loc} (C : Cx p s m args meth c cX5_roundSteps (some .int) 6 RX5) (G : Gf E s) (X : Hx E σ s H locs) (hk_a1 : kd a1 = 2) (hl : lv_has ls 6 [(0, .ref (gB E + 387)), (1, .ref (gB E + a1)), (2, .int x2), (3, .int x3)]) (h : X5_roundSteps a1 x2 x3 σ = some r) : W p l e (RM 5) s m args below meth c H locs 0 0 (QI E below args s r.1 r.2) (F0 m 0 ls []) := by
  rw [X5_roundSteps] at h
  refine lv_iload_n C.1 C.2.1 dX5_roundSteps_0 rfl (lv_at hl 3 rfl) ?_
  refine lv_aload_n C.1 C.2.1 dX5_roundSteps_1 rfl (lv_at hl 1 rfl) ?_
  refine lv_iload_n C.1 C.2.1 dX5_roundSteps_2 rfl (lv_at hl 2 rfl) ?_
  refine lv_iconst (v := -1) C.1 C.2.1 dX5_roundSteps_3 (by decide) ?_
  obtain ⟨r4, e4, h⟩ := bnd h
  refine afI X (runV C G X q_X7_reached k_656 k_657 k_655 (rcX7 G X hk_a1) (c_X7_reached l E hk_a1 e4) rfl hl.1 rfl (Nat.le_of_ble_eq_true rfl) ⟨Nat.le_of_ble_eq_true rfl, Nat.le_of_ble_eq_true rfl⟩ ⟨Nat.le_of_ble_eq_true rfl, Nat.le_of_ble_eq_true rfl⟩ dX5_roundSteps_4) (fun H locs X => ?_)
  refine lv_iconst (v := -1) C.1 C.2.1 dX5_roundSteps_7 (by decide) ?_
  refine lv_ixor C.1 C.2.1 dX5_roundSteps_8 ?_
  refine lv_iand C.1 C.2.1 dX5_roundSteps_9 ?_
  refine lv_if_eq (tgt := 15) C.1 C.2.1 dX5_roundSteps_10 (by decide) (fun c10 => ?_) (fun c10 => ?_)
  · replace h := ipos c10 h
    refine lv_aload_n C.1 C.2.1 dX5_roundSteps_15 rfl (lv_at hl 0 rfl) ?_
    refine lv_aload_n C.1 C.2.1 dX5_roundSteps_16 rfl (lv_at hl 1 rfl) ?_
    obtain ⟨σ17, e17, h⟩ := bnd h
    refine afV X (runV C G X q_X5_measure k_1421 kp_16 k_1419 (rcX5 G X kd_387) (c_X5_measure l E hk_a1 e17) rfl hl.1 rfl (Nat.le_of_ble_eq_true rfl) ⟨Nat.le_of_ble_eq_true rfl, Nat.le_of_ble_eq_true rfl⟩ ⟨Nat.le_of_ble_eq_true rfl, Nat.le_of_ble_eq_true rfl⟩ dX5_roundSteps_17) (fun H locs X => ?_)
    refine lv_iconst (v := 1) C.1 C.2.1 dX5_roundSteps_20 (by decide) ?_
    refine lv_istore (lv' := [(4, .int (1 : Int32)), (0, .ref (gB E + 387)), (1, .ref (gB E + a1)), (2, .int x2), (3, .int x3)]) C.1 C.2.1 dX5_roundSteps_21 hl (by decide) rfl (fun ls hl => ?_)
    exact w_X5_roundSteps_23 C G FU X hk_a1 (lv_sub hl [1, 2, 3, 4, 0] rfl) h
  · replace h := ineg c10 h
    refine lv_iconst (v := -1) C.1 C.2.1 dX5_roundSteps_13 (by decide) ?_
    rw [← Option.some.inj h]
    exact rtI C X dX5_roundSteps_14

theorem c_X5_roundSteps (l : Launch) (E : GE) {σ : Mem} {a1 : Nat} {x2 : Int32} {x3 : Int32} (hk_a1 : kd a1 = 2) {r : (Int32 × Mem)} (h : X5_roundSteps a1 x2 x3 σ = some r) : CtI l E yX5_roundSteps cX5_roundSteps 6 .int 5 [.ref (gB E + 387), .ref (gB E + a1), .int x2, .int x3] σ r.1 r.2 := by
  refine Met.ofW (cc := cX5_roundSteps) (maxL := 6) (ret := (some .int)) (by decide) rfl ?_
  intro p e s m args below meth c s₁ B hml hv
  obtain ⟨rfl, G, X⟩ := start hv
  have C := cxof B hml
  have hl := lv_entry [.ref (gB E + 387), .ref (gB E + a1), .int x2, .int x3] (n := 6) (Nat.le_of_ble_eq_true rfl)
  rw [lg_entry_eq]
  generalize (lg_sl [.ref (gB E + 387), .ref (gB E + a1), .int x2, .int x3] ++ List.replicate (6 - (lg_sl [.ref (gB E + 387), .ref (gB E + a1), .int x2, .int x3]).length) Slot.unset).toArray = ls at hl ⊢
  exact w_X5_roundSteps C G X hk_a1 hl h

set_option maxRecDepth 20000 in
theorem w_X5_roundBegin_3 {r : Int32} {σ : Mem} (C : Cx p s m args meth c cX5_roundBegin (some .int) 5 RX5) (G : Gf E s) : ∀ (f : Nat) {x1 : Int32} {x2 : Int32} {x3 : Int32} {x4 : Int32} {ls : Array Slot} {H : Heap} {locs : List Loc}, Hx E σ s H locs → lv_has ls 5 [(0, .ref (gB E + 387)), (1, .int x1), (2, .int x2), (3, .int x3), (4, .int x4)] → X5_roundBegin_3 σ f x1 x2 x3 x4 = some r → W p l e (RM 3) s m args below meth c H locs 0 0 (QI E below args s r σ) (F0 m 3 ls []) := by
  intro f
  induction f with
  | zero =>
    intro x1 x2 x3 x4 ls H locs X hl h
    rw [X5_roundBegin_3] at h
    cases h
  | succ f ih =>
    intro x1 x2 x3 x4 ls H locs X hl h
    rw [X5_roundBegin_3] at h
    refine lv_iload C.1 C.2.1 dX5_roundBegin_3 (lv_at hl 4 rfl) ?_
    refine lv_bipush (v := 9) C.1 C.2.1 dX5_roundBegin_5 (by decide) ?_
    refine lv_icmp_ge (tgt := 40) C.1 C.2.1 dX5_roundBegin_7 (by decide) (fun c7 => ?_) (fun c7 => ?_)
    · replace h := ipos c7 h
      refine lv_iconst (v := -1) C.1 C.2.1 dX5_roundBegin_40 (by decide) ?_
      rw [← Option.some.inj h]
      exact rtI C X dX5_roundBegin_41
    · replace h := ineg c7 h
      refine lv_iload_n C.1 C.2.1 dX5_roundBegin_10 rfl (lv_at hl 2 rfl) ?_
      refine lv_iload C.1 C.2.1 dX5_roundBegin_11 (lv_at hl 4 rfl) ?_
      obtain ⟨r13, e13, h⟩ := bnd h
      refine afI X (runN C G X q_X11_hasBit k_509 nw_13 (c_X11_hasBit l E e13) rfl hl.1 rfl (Nat.le_of_ble_eq_true rfl) ⟨Nat.le_of_ble_eq_true rfl, Nat.le_of_ble_eq_true rfl⟩ ⟨Nat.le_of_ble_eq_true rfl, Nat.le_of_ble_eq_true rfl⟩ dX5_roundBegin_13) (fun H locs X => ?_)
      refine lv_if_eq (tgt := 34) C.1 C.2.1 dX5_roundBegin_16 (by decide) (fun c16 => ?_) (fun c16 => ?_)
      · replace h := ipos c16 h
        refine lv_iinc (v := (x4 + 1)) (lv' := [(4, .int (x4 + 1)), (0, .ref (gB E + 387)), (1, .int x1), (2, .int x2), (3, .int x3)]) C.1 C.2.1 dX5_roundBegin_34 hl (k := 4) rfl rfl (by decide) rfl (fun ls hl => ?_)
        refine lv_goto (tgt := 3) C.1 C.2.1 dX5_roundBegin_37 (by decide) ?_
        exact ih X (lv_sub hl [1, 2, 3, 4, 0] rfl) h
      · replace h := ineg c16 h
        refine lv_aload_n C.1 C.2.1 dX5_roundBegin_19 rfl (lv_at hl 0 rfl) ?_
        refine lv_iload_n C.1 C.2.1 dX5_roundBegin_20 rfl (lv_at hl 2 rfl) ?_
        refine lv_iload_n C.1 C.2.1 dX5_roundBegin_21 rfl (lv_at hl 1 rfl) ?_
        refine lv_iload C.1 C.2.1 dX5_roundBegin_22 (lv_at hl 4 rfl) ?_
        obtain ⟨r24, e24, h⟩ := bnd h
        refine afI X (runV C G X q_X5_stepsBy k_1431 kp_18 k_1429 (rcX5 G X kd_387) (c_X5_stepsBy l E e24) rfl hl.1 rfl (Nat.le_of_ble_eq_true rfl) ⟨Nat.le_of_ble_eq_true rfl, Nat.le_of_ble_eq_true rfl⟩ ⟨Nat.le_of_ble_eq_true rfl, Nat.le_of_ble_eq_true rfl⟩ dX5_roundBegin_24) (fun H locs X => ?_)
        refine lv_iload_n C.1 C.2.1 dX5_roundBegin_27 rfl (lv_at hl 3 rfl) ?_
        refine lv_icmp_ne (tgt := 34) C.1 C.2.1 dX5_roundBegin_28 (by decide) (fun c28 => ?_) (fun c28 => ?_)
        · replace h := ineg c28 h
          refine lv_iinc (v := (x4 + 1)) (lv' := [(4, .int (x4 + 1)), (0, .ref (gB E + 387)), (1, .int x1), (2, .int x2), (3, .int x3)]) C.1 C.2.1 dX5_roundBegin_34 hl (k := 4) rfl rfl (by decide) rfl (fun ls hl => ?_)
          refine lv_goto (tgt := 3) C.1 C.2.1 dX5_roundBegin_37 (by decide) ?_
          exact ih X (lv_sub hl [1, 2, 3, 4, 0] rfl) h
        · replace h := ipos c28 h
          refine lv_iload C.1 C.2.1 dX5_roundBegin_31 (lv_at hl 4 rfl) ?_
          rw [← Option.some.inj h]
          exact rtI C X dX5_roundBegin_33

set_option maxRecDepth 20000 in
theorem w_X5_roundBegin {r : Int32} {σ : Mem} {x1 : Int32} {x2 : Int32} {x3 : Int32} {ls : Array Slot} {H : Heap} {locs : List Loc} (C : Cx p s m args meth c cX5_roundBegin (some .int) 5 RX5) (G : Gf E s) (X : Hx E σ s H locs) (hl : lv_has ls 5 [(0, .ref (gB E + 387)), (1, .int x1), (2, .int x2), (3, .int x3)]) (h : X5_roundBegin σ x1 x2 x3 = some r) : W p l e (RM 3) s m args below meth c H locs 0 0 (QI E below args s r σ) (F0 m 0 ls []) := by
  rw [X5_roundBegin] at h
  refine lv_iconst (v := 0) C.1 C.2.1 dX5_roundBegin_0 (by decide) ?_
  refine lv_istore (lv' := [(4, .int (0 : Int32)), (0, .ref (gB E + 387)), (1, .int x1), (2, .int x2), (3, .int x3)]) C.1 C.2.1 dX5_roundBegin_1 hl (by decide) rfl (fun ls hl => ?_)
  exact w_X5_roundBegin_3 C G FU X (lv_sub hl [1, 2, 3, 4, 0] rfl) h

theorem c_X5_roundBegin (l : Launch) (E : GE) {σ : Mem} {x1 : Int32} {x2 : Int32} {x3 : Int32} {r : Int32} (h : X5_roundBegin σ x1 x2 x3 = some r) : CtI l E yX5_roundBegin cX5_roundBegin 5 .int 3 [.ref (gB E + 387), .int x1, .int x2, .int x3] σ r σ := by
  refine Met.ofW (cc := cX5_roundBegin) (maxL := 5) (ret := (some .int)) (by decide) rfl ?_
  intro p e s m args below meth c s₁ B hml hv
  obtain ⟨rfl, G, X⟩ := start hv
  have C := cxof B hml
  have hl := lv_entry [.ref (gB E + 387), .int x1, .int x2, .int x3] (n := 5) (Nat.le_of_ble_eq_true rfl)
  rw [lg_entry_eq]
  generalize (lg_sl [.ref (gB E + 387), .int x1, .int x2, .int x3] ++ List.replicate (5 - (lg_sl [.ref (gB E + 387), .int x1, .int x2, .int x3]).length) Slot.unset).toArray = ls at hl ⊢
  exact w_X5_roundBegin C G X hl h

set_option maxRecDepth 20000 in
theorem w_X11_round {r : ((Int32 ⊕ Nat) × Mem)} {σ : Mem} {x1 : Int32} {x2 : Int32} {ls : Array Slot} {H : Heap} {locs : List Loc} (C : Cx p s m args meth c cX11_round (some .int) 7 RX11) (G : Gf E s) (T0 : ∀ x ∈ c.exceptionTable.toList, False) (hT : l.stackTraces = false) (X : Hx E σ s H locs) (hl : lv_has ls 7 [(0, .ref (gB E + 0)), (1, .int x1), (2, .int x2)]) (h : X11_round x1 x2 σ = some r) : W p l e (RX 13 2) s m args below meth c H locs 0 0 (QX E below args s 2 r.1 r.2) (F0 m 0 ls []) := by
  rw [X11_round] at h
  refine lv_aload_n C.1 C.2.1 dX11_round_0 rfl (lv_at hl 0 rfl) ?_
  refine gfX11 C G X (k := 0) kd_0 0 (v := .ref (gB E + 1)) rfl rfl (by decide) k_405 rfl dX11_round_1 ?_
  obtain ⟨r4, σ4, e4, h⟩ := bnd2 h
  refine afI (r0 := r4) (σ' := σ4) X (runV C G X q_X10_useUp k_808 k_809 k_1405 (rcX10 G X kd_1) (c_X10_useUp l E e4) rfl hl.1 rfl (Nat.le_of_ble_eq_true rfl) ⟨Nat.le_of_ble_eq_true rfl, Nat.le_of_ble_eq_true rfl⟩ ⟨Nat.le_of_ble_eq_true rfl, Nat.le_of_ble_eq_true rfl⟩ dX11_round_4) (fun H locs X => ?_)
  refine lv_istore_n (lv' := [(3, .int r4), (0, .ref (gB E + 0)), (1, .int x1), (2, .int x2)]) C.1 C.2.1 dX11_round_7 rfl hl (by decide) rfl (fun ls hl => ?_)
  refine lv_aload_n C.1 C.2.1 dX11_round_8 rfl (lv_at hl 1 rfl) ?_
  refine lv_iload_n C.1 C.2.1 dX11_round_9 rfl (lv_at hl 2 rfl) ?_
  rcases bndx h with ⟨r10, e10, h⟩ | ⟨x10_, e10, h⟩
  · refine axV X (runXV C G X q_X11_needWalker k_1216 kp_12 k_1214 (rcX11 G X kd_0) (c_X11_needWalker l E hT e10) rfl hl.1 rfl (Nat.le_of_ble_eq_true rfl) ⟨Nat.le_of_ble_eq_true rfl, Nat.le_of_ble_eq_true rfl⟩ ⟨Nat.le_of_ble_eq_true rfl, Nat.le_of_ble_eq_true rfl⟩ dX11_round_10) (fun r9 H locs er X => ?_) (fun x9 H locs q9 ce er X hz hv hcl => nomatch er)
    refine lv_aload_n C.1 C.2.1 dX11_round_13 rfl (lv_at hl 1 rfl) ?_
    refine gfX11 C G X (k := 0) kd_0 10 (v := .ref (gB E + 387)) rfl rfl (by decide) k_415 rfl dX11_round_14 ?_
    refine lv_aload_n C.1 C.2.1 dX11_round_17 rfl (lv_at hl 1 rfl) ?_
    refine gfX11 C G X (k := 0) kd_0 1 (v := .ref (gB E + 9)) rfl rfl (by decide) k_406 rfl dX11_round_18 ?_
    refine lv_aload_n C.1 C.2.1 dX11_round_21 rfl (lv_at hl 1 rfl) ?_
    refine gfX11 C G X (k := 0) kd_0 0 (v := .ref (gB E + 1)) rfl rfl (by decide) k_405 rfl dX11_round_22 ?_
    refine lv_iload_n C.1 C.2.1 dX11_round_25 rfl (lv_at hl 0 rfl) ?_
    obtain ⟨r26, e26, h⟩ := bnd h
    refine afI X (runV C G X q_X5_toldPanes k_1407 k_1408 k_1406 (rcX5 G X kd_387) (c_X5_toldPanes l E kd_9 e26) rfl hl.1 rfl (Nat.le_of_ble_eq_true rfl) ⟨Nat.le_of_ble_eq_true rfl, Nat.le_of_ble_eq_true rfl⟩ ⟨Nat.le_of_ble_eq_true rfl, Nat.le_of_ble_eq_true rfl⟩ dX11_round_26) (fun H locs X => ?_)
    refine lv_istore (lv' := [(4, .int r26), (3, .int r4), (0, .ref (gB E + 0)), (1, .int x1), (2, .int x2)]) C.1 C.2.1 dX11_round_29 hl (by decide) rfl (fun ls hl => ?_)
    refine lv_iload C.1 C.2.1 dX11_round_31 (lv_at hl 0 rfl) ?_
    refine lv_iconst (v := -1) C.1 C.2.1 dX11_round_33 (by decide) ?_
    refine lv_icmp_ne (tgt := 48) C.1 C.2.1 dX11_round_34 (by decide) (fun c34 => ?_) (fun c34 => ?_)
    · replace h := ineg c34 h
      refine lv_aload_n C.1 C.2.1 dX11_round_48 rfl (lv_at hl 2 rfl) ?_
      refine gfX11 C G X (k := 0) kd_0 1 (v := .ref (gB E + 9)) rfl rfl (by decide) k_406 rfl dX11_round_49 ?_
      refine gfX7 C G X (k := 9) kd_9 13 (v := .ref (gB E + 18)) rfl rfl (by decide) k_250 rfl dX11_round_52 ?_
      refine lv_iload_n C.1 C.2.1 dX11_round_55 rfl (lv_at hl 3 rfl) ?_
      obtain ⟨r56, e56, h⟩ := bnd h
      refine afI X (runV C G X q_X6_get k_498 k_499 k_1182 (rcX6 G X kd_18) (c_X6_get l E kd_18 e56) rfl hl.1 rfl (Nat.le_of_ble_eq_true rfl) ⟨Nat.le_of_ble_eq_true rfl, Nat.le_of_ble_eq_true rfl⟩ ⟨Nat.le_of_ble_eq_true rfl, Nat.le_of_ble_eq_true rfl⟩ dX11_round_56) (fun H locs X => ?_)
      refine lv_istore (lv' := [(5, .int r56), (4, .int r26), (3, .int r4), (0, .ref (gB E + 0)), (1, .int x1), (2, .int x2)]) C.1 C.2.1 dX11_round_59 hl (by decide) rfl (fun ls hl => ?_)
      refine lv_aload_n C.1 C.2.1 dX11_round_61 rfl (lv_at hl 3 rfl) ?_
      refine gfX11 C G X (k := 0) kd_0 10 (v := .ref (gB E + 387)) rfl rfl (by decide) k_415 rfl dX11_round_62 ?_
      refine lv_aload_n C.1 C.2.1 dX11_round_65 rfl (lv_at hl 3 rfl) ?_
      refine gfX11 C G X (k := 0) kd_0 1 (v := .ref (gB E + 9)) rfl rfl (by decide) k_406 rfl dX11_round_66 ?_
      refine lv_iload C.1 C.2.1 dX11_round_69 (lv_at hl 0 rfl) ?_
      refine lv_iload C.1 C.2.1 dX11_round_71 (lv_at hl 1 rfl) ?_
      obtain ⟨r73, σ73, e73, h⟩ := bnd2 h
      refine afI (r0 := r73) (σ' := σ73) X (runV C G X q_X5_roundSteps k_1416 k_1417 k_1415 (rcX5 G X kd_387) (c_X5_roundSteps l E kd_9 e73) rfl hl.1 rfl (Nat.le_of_ble_eq_true rfl) ⟨Nat.le_of_ble_eq_true rfl, Nat.le_of_ble_eq_true rfl⟩ ⟨Nat.le_of_ble_eq_true rfl, Nat.le_of_ble_eq_true rfl⟩ dX11_round_73) (fun H locs X => ?_)
      refine lv_istore (lv' := [(6, .int r73), (5, .int r56), (4, .int r26), (3, .int r4), (0, .ref (gB E + 0)), (1, .int x1), (2, .int x2)]) C.1 C.2.1 dX11_round_76 hl (by decide) rfl (fun ls hl => ?_)
      refine lv_iload_n C.1 C.2.1 dX11_round_78 rfl (lv_at hl 6 rfl) ?_
      refine lv_if_eq (tgt := 88) C.1 C.2.1 dX11_round_79 (by decide) (fun c79 => ?_) (fun c79 => ?_)
      · replace h := ipos c79 h
        refine lv_iload C.1 C.2.1 dX11_round_88 (lv_at hl 0 rfl) ?_
        refine W.widen (k := 2) (n := 12) (Nat.le_of_ble_eq_true rfl) (Nat.le_of_ble_eq_true rfl) ?_
        rw [← Option.some.inj h]
        exact vx_ret (rtxI C X dX11_round_90)
      · replace h := ineg c79 h
        refine lv_iload C.1 C.2.1 dX11_round_82 (lv_at hl 0 rfl) ?_
        refine lv_iconst (v := -1) C.1 C.2.1 dX11_round_84 (by decide) ?_
        refine lv_icmp_ne (tgt := 91) C.1 C.2.1 dX11_round_85 (by decide) (fun c85 => ?_) (fun c85 => ?_)
        · replace h := ineg c85 h
          refine lv_aload_n C.1 C.2.1 dX11_round_91 rfl (lv_at hl 4 rfl) ?_
          refine gfX11 C G X (k := 0) kd_0 10 (v := .ref (gB E + 387)) rfl rfl (by decide) k_415 rfl dX11_round_92 ?_
          refine lv_iload C.1 C.2.1 dX11_round_95 (lv_at hl 1 rfl) ?_
          refine lv_iload C.1 C.2.1 dX11_round_97 (lv_at hl 2 rfl) ?_
          refine lv_iload C.1 C.2.1 dX11_round_99 (lv_at hl 0 rfl) ?_
          obtain ⟨r101, e101, h⟩ := bnd h
          refine afI X (runV C G X q_X5_roundBegin k_1436 k_1437 k_1435 (rcX5 G X kd_387) (c_X5_roundBegin l E e101) rfl hl.1 rfl (Nat.le_of_ble_eq_true rfl) ⟨Nat.le_of_ble_eq_true rfl, Nat.le_of_ble_eq_true rfl⟩ ⟨Nat.le_of_ble_eq_true rfl, Nat.le_of_ble_eq_true rfl⟩ dX11_round_101) (fun H locs X => ?_)
          refine W.widen (k := 2) (n := 12) (Nat.le_of_ble_eq_true rfl) (Nat.le_of_ble_eq_true rfl) ?_
          rw [← Option.some.inj h]
          exact vx_ret (rtxI C X dX11_round_104)
        · replace h := ipos c85 h
          refine lv_iload C.1 C.2.1 dX11_round_88 (lv_at hl 0 rfl) ?_
          refine W.widen (k := 2) (n := 12) (Nat.le_of_ble_eq_true rfl) (Nat.le_of_ble_eq_true rfl) ?_
          rw [← Option.some.inj h]
          exact vx_ret (rtxI C X dX11_round_90)
    · replace h := ipos c34 h
      rw [← Option.some.inj h]
      exact thSW C G X T0 hT (x := 2) (cls := "java/lang/IllegalArgumentException") (text := "these are not panes to go round") (ik := 91) (is := 290) (ic := 95) rfl k_985 k_126 (by decide +kernel) (by decide +kernel) hl.1 dX11_round_37 dX11_round_40 dX11_round_41 dX11_round_44 dX11_round_47 (Nat.le_of_ble_eq_true rfl) (Nat.le_of_ble_eq_true rfl) (Nat.le_of_ble_eq_true rfl) (Nat.le_of_ble_eq_true rfl)
  · refine axV X (runXV C G X q_X11_needWalker k_1216 kp_12 k_1214 (rcX11 G X kd_0) (c_X11_needWalker l E hT e10) rfl hl.1 rfl (Nat.le_of_ble_eq_true rfl) ⟨Nat.le_of_ble_eq_true rfl, Nat.le_of_ble_eq_true rfl⟩ ⟨Nat.le_of_ble_eq_true rfl, Nat.le_of_ble_eq_true rfl⟩ dX11_round_10) (fun r9 H locs er X => nomatch er) (fun x9 H locs q9 ce er X hz hv hcl => ?_)
    rw [← Sum.inr.inj er] at hcl
    rw [← Option.some.inj h]
    exact xout C X T0 hz hv hcl (Nat.le_of_ble_eq_true rfl) (Nat.le_of_ble_eq_true rfl)

theorem c_X11_round (l : Launch) (E : GE) (hT : l.stackTraces = false) {σ : Mem} {x1 : Int32} {x2 : Int32} {r : ((Int32 ⊕ Nat) × Mem)} (h : X11_round x1 x2 σ = some r) : CtX l E yX11_round cX11_round 7 .int 13 2 [.ref (gB E + 0), .int x1, .int x2] σ r.1 r.2 := by
  refine vx_ofW (cc := cX11_round) (maxL := 7) (ret := (some .int)) (by decide) rfl ?_
  intro p e s m args below meth c s₁ B hml T0 hv
  obtain ⟨rfl, G, X⟩ := start hv
  have C := cxof B hml
  have hl := lv_entry [.ref (gB E + 0), .int x1, .int x2] (n := 7) (Nat.le_of_ble_eq_true rfl)
  rw [lg_entry_eq]
  generalize (lg_sl [.ref (gB E + 0), .int x1, .int x2] ++ List.replicate (7 - (lg_sl [.ref (gB E + 0), .int x1, .int x2]).length) Slot.unset).toArray = ls at hl ⊢
  exact w_X11_round C G T0 hT X hl h

set_option maxRecDepth 20000 in
theorem w_J6_bitCount_0f7a4 {r : Int32} {σ : Mem} {x0 : Int32} {ls : Array Slot} {H : Heap} {locs : List Loc} (C : Cx p s m args meth c cJ6_bitCount_0f7a4 (some .int) 1 RJ6) (G : Gf E s) (X : Hx E σ s H locs) (hl : lv_has ls 1 [(0, .int x0)]) (h : J6_bitCount_0f7a4 σ x0 = some r) : W p l e (RM 1) s m args below meth c H locs 0 0 (QI E below args s r σ) (F0 m 0 ls []) := by
  rw [J6_bitCount_0f7a4] at h
  refine lv_iload_n C.1 C.2.1 dJ6_bitCount_0f7a4_0 rfl (lv_at hl 0 rfl) ?_
  refine lv_iload_n C.1 C.2.1 dJ6_bitCount_0f7a4_1 rfl (lv_at hl 0 rfl) ?_
  refine lv_iconst (v := 1) C.1 C.2.1 dJ6_bitCount_0f7a4_2 (by decide) ?_
  refine lv_iushr C.1 C.2.1 dJ6_bitCount_0f7a4_3 rfl ?_
  refine lv_ldcw C.1 C.2.1 C.hown (C.ts _ k_642) dJ6_bitCount_0f7a4_4 ?_
  refine lv_iand C.1 C.2.1 dJ6_bitCount_0f7a4_7 ?_
  refine lv_isub C.1 C.2.1 dJ6_bitCount_0f7a4_8 ?_
  obtain ⟨v9, e9, h⟩ := bnd h
  rw [Option.some.inj e9]
  refine lv_istore_n (lv' := [(0, .int v9)]) C.1 C.2.1 dJ6_bitCount_0f7a4_9 rfl hl (by decide) rfl (fun ls hl => ?_)
  refine lv_iload_n C.1 C.2.1 dJ6_bitCount_0f7a4_10 rfl (lv_at hl 0 rfl) ?_
  refine lv_ldcw C.1 C.2.1 C.hown (C.ts _ k_643) dJ6_bitCount_0f7a4_11 ?_
  refine lv_iand C.1 C.2.1 dJ6_bitCount_0f7a4_14 ?_
  refine lv_iload_n C.1 C.2.1 dJ6_bitCount_0f7a4_15 rfl (lv_at hl 0 rfl) ?_
  refine lv_iconst (v := 2) C.1 C.2.1 dJ6_bitCount_0f7a4_16 (by decide) ?_
  refine lv_iushr C.1 C.2.1 dJ6_bitCount_0f7a4_17 rfl ?_
  refine lv_ldcw C.1 C.2.1 C.hown (C.ts _ k_643) dJ6_bitCount_0f7a4_18 ?_
  refine lv_iand C.1 C.2.1 dJ6_bitCount_0f7a4_21 ?_
  refine lv_iadd C.1 C.2.1 dJ6_bitCount_0f7a4_22 ?_
  obtain ⟨v23, e23, h⟩ := bnd h
  rw [Option.some.inj e23]
  refine lv_istore_n (lv' := [(0, .int v23)]) C.1 C.2.1 dJ6_bitCount_0f7a4_23 rfl hl (by decide) rfl (fun ls hl => ?_)
  refine lv_iload_n C.1 C.2.1 dJ6_bitCount_0f7a4_24 rfl (lv_at hl 0 rfl) ?_
  refine lv_iload_n C.1 C.2.1 dJ6_bitCount_0f7a4_25 rfl (lv_at hl 0 rfl) ?_
  refine lv_iconst (v := 4) C.1 C.2.1 dJ6_bitCount_0f7a4_26 (by decide) ?_
  refine lv_iushr C.1 C.2.1 dJ6_bitCount_0f7a4_27 rfl ?_
  refine lv_iadd C.1 C.2.1 dJ6_bitCount_0f7a4_28 ?_
  refine lv_ldcw C.1 C.2.1 C.hown (C.ts _ k_644) dJ6_bitCount_0f7a4_29 ?_
  refine lv_iand C.1 C.2.1 dJ6_bitCount_0f7a4_32 ?_
  obtain ⟨v33, e33, h⟩ := bnd h
  rw [Option.some.inj e33]
  refine lv_istore_n (lv' := [(0, .int v33)]) C.1 C.2.1 dJ6_bitCount_0f7a4_33 rfl hl (by decide) rfl (fun ls hl => ?_)
  refine lv_iload_n C.1 C.2.1 dJ6_bitCount_0f7a4_34 rfl (lv_at hl 0 rfl) ?_
  refine lv_iload_n C.1 C.2.1 dJ6_bitCount_0f7a4_35 rfl (lv_at hl 0 rfl) ?_
  refine lv_bipush (v := 8) C.1 C.2.1 dJ6_bitCount_0f7a4_36 (by decide) ?_
  refine lv_iushr C.1 C.2.1 dJ6_bitCount_0f7a4_38 rfl ?_
  refine lv_iadd C.1 C.2.1 dJ6_bitCount_0f7a4_39 ?_
  obtain ⟨v40, e40, h⟩ := bnd h
  rw [Option.some.inj e40]
  refine lv_istore_n (lv' := [(0, .int v40)]) C.1 C.2.1 dJ6_bitCount_0f7a4_40 rfl hl (by decide) rfl (fun ls hl => ?_)
  refine lv_iload_n C.1 C.2.1 dJ6_bitCount_0f7a4_41 rfl (lv_at hl 0 rfl) ?_
  refine lv_iload_n C.1 C.2.1 dJ6_bitCount_0f7a4_42 rfl (lv_at hl 0 rfl) ?_
  refine lv_bipush (v := 16) C.1 C.2.1 dJ6_bitCount_0f7a4_43 (by decide) ?_
  refine lv_iushr C.1 C.2.1 dJ6_bitCount_0f7a4_45 rfl ?_
  refine lv_iadd C.1 C.2.1 dJ6_bitCount_0f7a4_46 ?_
  obtain ⟨v47, e47, h⟩ := bnd h
  rw [Option.some.inj e47]
  refine lv_istore_n (lv' := [(0, .int v47)]) C.1 C.2.1 dJ6_bitCount_0f7a4_47 rfl hl (by decide) rfl (fun ls hl => ?_)
  refine lv_iload_n C.1 C.2.1 dJ6_bitCount_0f7a4_48 rfl (lv_at hl 0 rfl) ?_
  refine lv_bipush (v := 63) C.1 C.2.1 dJ6_bitCount_0f7a4_49 (by decide) ?_
  refine lv_iand C.1 C.2.1 dJ6_bitCount_0f7a4_51 ?_
  rw [← Option.some.inj h]
  exact rtI C X dJ6_bitCount_0f7a4_52

theorem c_J6_bitCount_0f7a4 (l : Launch) (E : GE) {σ : Mem} {x0 : Int32} {r : Int32} (h : J6_bitCount_0f7a4 σ x0 = some r) : CtI l E yJ6_bitCount_0f7a4 cJ6_bitCount_0f7a4 1 .int 1 [.int x0] σ r σ := by
  refine Met.ofW (cc := cJ6_bitCount_0f7a4) (maxL := 1) (ret := (some .int)) (by decide) rfl ?_
  intro p e s m args below meth c s₁ B hml hv
  obtain ⟨rfl, G, X⟩ := start hv
  have C := cxof B hml
  have hl := lv_entry [.int x0] (n := 1) (Nat.le_of_ble_eq_true rfl)
  rw [lg_entry_eq]
  generalize (lg_sl [.int x0] ++ List.replicate (1 - (lg_sl [.int x0]).length) Slot.unset).toArray = ls at hl ⊢
  exact w_J6_bitCount_0f7a4 C G X hl h

set_option maxRecDepth 20000 in
theorem w_X5_fewestBeats_38 {r : Int32} {σ : Mem} {rc15 : Nat → Int32 → Int32 → Int32 → Option Int32} {a1 : Nat} {x2 : Int32} {x3 : Int32} {x4 : Int32} {y0 : Int32} {ls : Array Slot} {H : Heap} {locs : List Loc} (C : Cx p s m args meth c cX5_fewestBeats (some .int) 6 RX5) (G : Gf E s) (hr15 : ∀ {a1 : Nat} {x2 : Int32} {x3 : Int32} {x4 : Int32} {ls : Array Slot} {H : Heap} {locs : List Loc}, Hx E σ s H locs → kd a1 = 2 → lv_has ls 6 [(1, .ref (gB E + a1)), (2, .int x2), (3, .int x3), (4, .int x4)] → rc15 a1 x2 x3 x4 = some r → W p l e (RM 3) s m args below meth c H locs 0 0 (QI E below args s r σ) (F0 m 15 ls [])) (X : Hx E σ s H locs) (hk_a1 : kd a1 = 2) (hl : lv_has ls 6 [(1, .ref (gB E + a1)), (2, .int x2), (3, .int x3), (4, .int x4)]) (h : X5_fewestBeats_38 σ rc15 a1 x2 x3 x4 y0 = some r) : W p l e (RM 3) s m args below meth c H locs 0 0 (QI E below args s r σ) (F0 m 38 ls [.int y0]) := by
  rw [X5_fewestBeats_38] at h
  refine lv_istore (lv' := [(5, .int y0), (1, .ref (gB E + a1)), (2, .int x2), (3, .int x3), (4, .int x4)]) C.1 C.2.1 dX5_fewestBeats_38 hl (by decide) rfl (fun ls hl => ?_)
  refine lv_iload C.1 C.2.1 dX5_fewestBeats_40 (lv_at hl 0 rfl) ?_
  refine lv_if_eq (tgt := 61) C.1 C.2.1 dX5_fewestBeats_42 (by decide) (fun c42 => ?_) (fun c42 => ?_)
  · replace h := ipos c42 h
    refine lv_iinc (v := (x4 + 1)) (lv' := [(4, .int (x4 + 1)), (5, .int y0), (1, .ref (gB E + a1)), (2, .int x2), (3, .int x3)]) C.1 C.2.1 dX5_fewestBeats_61 hl (k := 4) rfl rfl (by decide) rfl (fun ls hl => ?_)
    refine lv_goto (tgt := 15) C.1 C.2.1 dX5_fewestBeats_64 (by decide) ?_
    exact hr15 X hk_a1 (lv_sub hl [2, 3, 4, 0] rfl) h
  · replace h := ineg c42 h
    refine lv_iload C.1 C.2.1 dX5_fewestBeats_45 (lv_at hl 4 rfl) ?_
    refine lv_aload_n C.1 C.2.1 dX5_fewestBeats_47 rfl (lv_at hl 1 rfl) ?_
    refine lv_iload C.1 C.2.1 dX5_fewestBeats_48 (lv_at hl 4 rfl) ?_
    obtain ⟨r50, e50, h⟩ := bnd h
    refine afI X (runV C G X q_X7_around k_512 k_513 k_645 (rcX7 G X hk_a1) (c_X7_around l E hk_a1 e50) rfl hl.1 rfl (Nat.le_of_ble_eq_true rfl) ⟨Nat.le_of_ble_eq_true rfl, Nat.le_of_ble_eq_true rfl⟩ ⟨Nat.le_of_ble_eq_true rfl, Nat.le_of_ble_eq_true rfl⟩ dX5_fewestBeats_50) (fun H locs X => ?_)
    refine lv_ior C.1 C.2.1 dX5_fewestBeats_53 ?_
    refine lv_iload_n C.1 C.2.1 dX5_fewestBeats_54 rfl (lv_at hl 2 rfl) ?_
    refine lv_icmp_ne (tgt := 61) C.1 C.2.1 dX5_fewestBeats_55 (by decide) (fun c55 => ?_) (fun c55 => ?_)
    · replace h := ineg c55 h
      refine lv_iinc (v := (x4 + 1)) (lv' := [(4, .int (x4 + 1)), (5, .int y0), (1, .ref (gB E + a1)), (2, .int x2), (3, .int x3)]) C.1 C.2.1 dX5_fewestBeats_61 hl (k := 4) rfl rfl (by decide) rfl (fun ls hl => ?_)
      refine lv_goto (tgt := 15) C.1 C.2.1 dX5_fewestBeats_64 (by decide) ?_
      exact hr15 X hk_a1 (lv_sub hl [2, 3, 4, 0] rfl) h
    · replace h := ipos c55 h
      refine lv_iload C.1 C.2.1 dX5_fewestBeats_58 (lv_at hl 4 rfl) ?_
      refine lv_istore_n (lv' := [(3, .int x4), (5, .int y0), (1, .ref (gB E + a1)), (2, .int x2), (4, .int x4)]) C.1 C.2.1 dX5_fewestBeats_60 rfl hl (by decide) rfl (fun ls hl => ?_)
      refine lv_iinc (v := (x4 + 1)) (lv' := [(4, .int (x4 + 1)), (3, .int x4), (5, .int y0), (1, .ref (gB E + a1)), (2, .int x2)]) C.1 C.2.1 dX5_fewestBeats_61 hl (k := 4) rfl rfl (by decide) rfl (fun ls hl => ?_)
      refine lv_goto (tgt := 15) C.1 C.2.1 dX5_fewestBeats_64 (by decide) ?_
      exact hr15 X hk_a1 (lv_sub hl [3, 4, 1, 0] rfl) h

set_option maxRecDepth 20000 in
theorem w_X5_fewestBeats_15 {r : Int32} {σ : Mem} (C : Cx p s m args meth c cX5_fewestBeats (some .int) 6 RX5) (G : Gf E s) : ∀ (f : Nat) {a1 : Nat} {x2 : Int32} {x3 : Int32} {x4 : Int32} {ls : Array Slot} {H : Heap} {locs : List Loc}, Hx E σ s H locs → kd a1 = 2 → lv_has ls 6 [(1, .ref (gB E + a1)), (2, .int x2), (3, .int x3), (4, .int x4)] → X5_fewestBeats_15 σ f a1 x2 x3 x4 = some r → W p l e (RM 3) s m args below meth c H locs 0 0 (QI E below args s r σ) (F0 m 15 ls []) := by
  intro f
  induction f with
  | zero =>
    intro a1 x2 x3 x4 ls H locs X hk_a1 hl h
    rw [X5_fewestBeats_15] at h
    cases h
  | succ f ih =>
    intro a1 x2 x3 x4 ls H locs X hk_a1 hl h
    rw [X5_fewestBeats_15] at h
    refine lv_iload C.1 C.2.1 dX5_fewestBeats_15 (lv_at hl 3 rfl) ?_
    refine lv_iload_n C.1 C.2.1 dX5_fewestBeats_17 rfl (lv_at hl 1 rfl) ?_
    refine lv_icmp_ge (tgt := 67) C.1 C.2.1 dX5_fewestBeats_18 (by decide) (fun c18 => ?_) (fun c18 => ?_)
    · replace h := ipos c18 h
      refine lv_iload_n C.1 C.2.1 dX5_fewestBeats_67 rfl (lv_at hl 2 rfl) ?_
      rw [← Option.some.inj h]
      exact rtI C X dX5_fewestBeats_68
    · replace h := ineg c18 h
      refine lv_iload C.1 C.2.1 dX5_fewestBeats_21 (lv_at hl 3 rfl) ?_
      obtain ⟨r23, e23, h⟩ := bnd h
      refine afI X (runS C G X q_J6_bitCount_0f7a4 k_640 k_639 (c_J6_bitCount_0f7a4 l E e23) rfl hl.1 rfl (Nat.le_of_ble_eq_true rfl) ⟨Nat.le_of_ble_eq_true rfl, Nat.le_of_ble_eq_true rfl⟩ ⟨Nat.le_of_ble_eq_true rfl, Nat.le_of_ble_eq_true rfl⟩ dX5_fewestBeats_23) (fun H locs X => ?_)
      refine lv_iload_n C.1 C.2.1 dX5_fewestBeats_26 rfl (lv_at hl 2 rfl) ?_
      obtain ⟨r27, e27, h⟩ := bnd h
      refine afI X (runS C G X q_J6_bitCount_0f7a4 k_640 k_639 (c_J6_bitCount_0f7a4 l E e27) rfl hl.1 rfl (Nat.le_of_ble_eq_true rfl) ⟨Nat.le_of_ble_eq_true rfl, Nat.le_of_ble_eq_true rfl⟩ ⟨Nat.le_of_ble_eq_true rfl, Nat.le_of_ble_eq_true rfl⟩ dX5_fewestBeats_27) (fun H locs X => ?_)
      refine lv_icmp_ge (tgt := 37) C.1 C.2.1 dX5_fewestBeats_30 (by decide) (fun c30 => ?_) (fun c30 => ?_)
      · replace h := ipos c30 h
        refine lv_iconst (v := 0) C.1 C.2.1 dX5_fewestBeats_37 (by decide) ?_
        exact w_X5_fewestBeats_38 C G ih X hk_a1 (lv_sub hl [0, 1, 2, 3] rfl) h
      · replace h := ineg c30 h
        refine lv_iconst (v := 1) C.1 C.2.1 dX5_fewestBeats_33 (by decide) ?_
        refine lv_goto (tgt := 38) C.1 C.2.1 dX5_fewestBeats_34 (by decide) ?_
        exact w_X5_fewestBeats_38 C G ih X hk_a1 (lv_sub hl [0, 1, 2, 3] rfl) h

set_option maxRecDepth 20000 in
theorem w_X5_fewestBeats {r : Int32} {σ : Mem} {a1 : Nat} {ls : Array Slot} {H : Heap} {locs : List Loc} (C : Cx p s m args meth c cX5_fewestBeats (some .int) 6 RX5) (G : Gf E s) (X : Hx E σ s H locs) (hk_a1 : kd a1 = 2) (hl : lv_has ls 6 [(0, .ref (gB E + 387)), (1, .ref (gB E + a1))]) (h : X5_fewestBeats σ a1 = some r) : W p l e (RM 3) s m args below meth c H locs 0 0 (QI E below args s r σ) (F0 m 0 ls []) := by
  rw [X5_fewestBeats] at h
  refine lv_aload_n C.1 C.2.1 dX5_fewestBeats_0 rfl (lv_at hl 1 rfl) ?_
  refine gfX7 C G X (k := a1) hk_a1 0 (v := .int (σ a1 0)) rfl rfl (by decide) k_199 rfl dX5_fewestBeats_1 ?_
  obtain ⟨r4, e4, h⟩ := bnd h
  refine afI X (runN C G X q_X11_bit k_506 nw_12 (c_X11_bit l E e4) rfl hl.1 rfl (Nat.le_of_ble_eq_true rfl) ⟨Nat.le_of_ble_eq_true rfl, Nat.le_of_ble_eq_true rfl⟩ ⟨Nat.le_of_ble_eq_true rfl, Nat.le_of_ble_eq_true rfl⟩ dX5_fewestBeats_4) (fun H locs X => ?_)
  refine lv_iconst (v := 1) C.1 C.2.1 dX5_fewestBeats_7 (by decide) ?_
  refine lv_isub C.1 C.2.1 dX5_fewestBeats_8 ?_
  refine lv_istore_n (lv' := [(2, .int (r4 - (1 : Int32))), (0, .ref (gB E + 387)), (1, .ref (gB E + a1))]) C.1 C.2.1 dX5_fewestBeats_9 rfl hl (by decide) rfl (fun ls hl => ?_)
  refine lv_iload_n C.1 C.2.1 dX5_fewestBeats_10 rfl (lv_at hl 0 rfl) ?_
  refine lv_istore_n (lv' := [(3, .int (r4 - (1 : Int32))), (2, .int (r4 - (1 : Int32))), (0, .ref (gB E + 387)), (1, .ref (gB E + a1))]) C.1 C.2.1 dX5_fewestBeats_11 rfl hl (by decide) rfl (fun ls hl => ?_)
  refine lv_iconst (v := 0) C.1 C.2.1 dX5_fewestBeats_12 (by decide) ?_
  refine lv_istore (lv' := [(4, .int (0 : Int32)), (3, .int (r4 - (1 : Int32))), (2, .int (r4 - (1 : Int32))), (0, .ref (gB E + 387)), (1, .ref (gB E + a1))]) C.1 C.2.1 dX5_fewestBeats_13 hl (by decide) rfl (fun ls hl => ?_)
  exact w_X5_fewestBeats_15 C G FU X hk_a1 (lv_sub hl [4, 2, 1, 0] rfl) h

theorem c_X5_fewestBeats (l : Launch) (E : GE) {σ : Mem} {a1 : Nat} (hk_a1 : kd a1 = 2) {r : Int32} (h : X5_fewestBeats σ a1 = some r) : CtI l E yX5_fewestBeats cX5_fewestBeats 6 .int 3 [.ref (gB E + 387), .ref (gB E + a1)] σ r σ := by
  refine Met.ofW (cc := cX5_fewestBeats) (maxL := 6) (ret := (some .int)) (by decide) rfl ?_
  intro p e s m args below meth c s₁ B hml hv
  obtain ⟨rfl, G, X⟩ := start hv
  have C := cxof B hml
  have hl := lv_entry [.ref (gB E + 387), .ref (gB E + a1)] (n := 6) (Nat.le_of_ble_eq_true rfl)
  rw [lg_entry_eq]
  generalize (lg_sl [.ref (gB E + 387), .ref (gB E + a1)] ++ List.replicate (6 - (lg_sl [.ref (gB E + 387), .ref (gB E + a1)]).length) Slot.unset).toArray = ls at hl ⊢
  exact w_X5_fewestBeats C G X hk_a1 hl h

set_option maxRecDepth 20000 in
theorem w_X11_beats {r : Int32} {σ : Mem} {ls : Array Slot} {H : Heap} {locs : List Loc} (C : Cx p s m args meth c cX11_beats (some .int) 1 RX11) (G : Gf E s) (X : Hx E σ s H locs) (hl : lv_has ls 1 [(0, .ref (gB E + 0))]) (h : X11_beats σ = some r) : W p l e (RM 4) s m args below meth c H locs 0 0 (QI E below args s r σ) (F0 m 0 ls []) := by
  rw [X11_beats] at h
  refine lv_aload_n C.1 C.2.1 dX11_beats_0 rfl (lv_at hl 0 rfl) ?_
  refine gfX11 C G X (k := 0) kd_0 10 (v := .ref (gB E + 387)) rfl rfl (by decide) k_415 rfl dX11_beats_1 ?_
  refine lv_aload_n C.1 C.2.1 dX11_beats_4 rfl (lv_at hl 0 rfl) ?_
  refine gfX11 C G X (k := 0) kd_0 1 (v := .ref (gB E + 9)) rfl rfl (by decide) k_406 rfl dX11_beats_5 ?_
  obtain ⟨r8, e8, h⟩ := bnd h
  refine afI X (runV C G X q_X5_fewestBeats k_635 k_636 k_634 (rcX5 G X kd_387) (c_X5_fewestBeats l E kd_9 e8) rfl hl.1 rfl (Nat.le_of_ble_eq_true rfl) ⟨Nat.le_of_ble_eq_true rfl, Nat.le_of_ble_eq_true rfl⟩ ⟨Nat.le_of_ble_eq_true rfl, Nat.le_of_ble_eq_true rfl⟩ dX11_beats_8) (fun H locs X => ?_)
  rw [← Option.some.inj h]
  exact rtI C X dX11_beats_11

theorem c_X11_beats (l : Launch) (E : GE) {σ : Mem} {r : Int32} (h : X11_beats σ = some r) : CtI l E yX11_beats cX11_beats 1 .int 4 [.ref (gB E + 0)] σ r σ := by
  refine Met.ofW (cc := cX11_beats) (maxL := 1) (ret := (some .int)) (by decide) rfl ?_
  intro p e s m args below meth c s₁ B hml hv
  obtain ⟨rfl, G, X⟩ := start hv
  have C := cxof B hml
  have hl := lv_entry [.ref (gB E + 0)] (n := 1) (Nat.le_of_ble_eq_true rfl)
  rw [lg_entry_eq]
  generalize (lg_sl [.ref (gB E + 0)] ++ List.replicate (1 - (lg_sl [.ref (gB E + 0)]).length) Slot.unset).toArray = ls at hl ⊢
  exact w_X11_beats C G X hl h

set_option maxRecDepth 20000 in
theorem w_X5_pieces_15 {r : Int32} {σ : Mem} (C : Cx p s m args meth c cX5_pieces (some .int) 5 RX5) (G : Gf E s) : ∀ (f : Nat) {a1 : Nat} {x2 : Int32} {x3 : Int32} {x4 : Int32} {ls : Array Slot} {H : Heap} {locs : List Loc}, Hx E σ s H locs → kd a1 = 2 → lv_has ls 5 [(1, .ref (gB E + a1)), (2, .int x2), (3, .int x3), (4, .int x4)] → X5_pieces_15 σ f a1 x2 x3 x4 = some r → W p l e (RM 4) s m args below meth c H locs 0 0 (QI E below args s r σ) (F0 m 15 ls []) := by
  intro f
  induction f with
  | zero =>
    intro a1 x2 x3 x4 ls H locs X hk_a1 hl h
    rw [X5_pieces_15] at h
    cases h
  | succ f ih =>
    intro a1 x2 x3 x4 ls H locs X hk_a1 hl h
    rw [X5_pieces_15] at h
    refine lv_iload C.1 C.2.1 dX5_pieces_15 (lv_at hl 3 rfl) ?_
    refine lv_aload_n C.1 C.2.1 dX5_pieces_17 rfl (lv_at hl 0 rfl) ?_
    refine gfX7 C G X (k := a1) hk_a1 0 (v := .int (σ a1 0)) rfl rfl (by decide) k_199 rfl dX5_pieces_18 ?_
    refine lv_icmp_ge (tgt := 54) C.1 C.2.1 dX5_pieces_21 (by decide) (fun c21 => ?_) (fun c21 => ?_)
    · replace h := ipos c21 h
      refine lv_iload_n C.1 C.2.1 dX5_pieces_54 rfl (lv_at hl 2 rfl) ?_
      rw [← Option.some.inj h]
      exact rtI C X dX5_pieces_55
    · replace h := ineg c21 h
      refine lv_iload_n C.1 C.2.1 dX5_pieces_24 rfl (lv_at hl 1 rfl) ?_
      refine lv_iload C.1 C.2.1 dX5_pieces_25 (lv_at hl 3 rfl) ?_
      obtain ⟨r27, e27, h⟩ := bnd h
      refine afI X (runN C G X q_X11_hasBit k_509 nw_13 (c_X11_hasBit l E e27) rfl hl.1 rfl (Nat.le_of_ble_eq_true rfl) ⟨Nat.le_of_ble_eq_true rfl, Nat.le_of_ble_eq_true rfl⟩ ⟨Nat.le_of_ble_eq_true rfl, Nat.le_of_ble_eq_true rfl⟩ dX5_pieces_27) (fun H locs X => ?_)
      refine lv_if_eq (tgt := 48) C.1 C.2.1 dX5_pieces_30 (by decide) (fun c30 => ?_) (fun c30 => ?_)
      · replace h := ipos c30 h
        refine lv_iinc (v := (x4 + 1)) (lv' := [(4, .int (x4 + 1)), (1, .ref (gB E + a1)), (2, .int x2), (3, .int x3)]) C.1 C.2.1 dX5_pieces_48 hl (k := 3) rfl rfl (by decide) rfl (fun ls hl => ?_)
        refine lv_goto (tgt := 15) C.1 C.2.1 dX5_pieces_51 (by decide) ?_
        exact ih X hk_a1 (lv_sub hl [1, 2, 3, 0] rfl) h
      · replace h := ineg c30 h
        refine lv_iload_n C.1 C.2.1 dX5_pieces_33 rfl (lv_at hl 1 rfl) ?_
        refine lv_aload_n C.1 C.2.1 dX5_pieces_34 rfl (lv_at hl 0 rfl) ?_
        refine lv_iload C.1 C.2.1 dX5_pieces_35 (lv_at hl 3 rfl) ?_
        refine lv_iload_n C.1 C.2.1 dX5_pieces_37 rfl (lv_at hl 1 rfl) ?_
        obtain ⟨r38, e38, h⟩ := bnd h
        refine afI X (runV C G X q_X7_reached k_656 k_657 k_655 (rcX7 G X hk_a1) (c_X7_reached l E hk_a1 e38) rfl hl.1 rfl (Nat.le_of_ble_eq_true rfl) ⟨Nat.le_of_ble_eq_true rfl, Nat.le_of_ble_eq_true rfl⟩ ⟨Nat.le_of_ble_eq_true rfl, Nat.le_of_ble_eq_true rfl⟩ dX5_pieces_38) (fun H locs X => ?_)
        refine lv_iconst (v := -1) C.1 C.2.1 dX5_pieces_41 (by decide) ?_
        refine lv_ixor C.1 C.2.1 dX5_pieces_42 ?_
        refine lv_iand C.1 C.2.1 dX5_pieces_43 ?_
        refine lv_istore_n (lv' := [(2, .int (x2 &&& (r38 ^^^ (-1 : Int32)))), (1, .ref (gB E + a1)), (3, .int x3), (4, .int x4)]) C.1 C.2.1 dX5_pieces_44 rfl hl (by decide) rfl (fun ls hl => ?_)
        refine lv_iinc (v := (x3 + 1)) (lv' := [(3, .int (x3 + 1)), (2, .int (x2 &&& (r38 ^^^ (-1 : Int32)))), (1, .ref (gB E + a1)), (4, .int x4)]) C.1 C.2.1 dX5_pieces_45 hl (k := 2) rfl rfl (by decide) rfl (fun ls hl => ?_)
        refine lv_iinc (v := (x4 + 1)) (lv' := [(4, .int (x4 + 1)), (3, .int (x3 + 1)), (2, .int (x2 &&& (r38 ^^^ (-1 : Int32)))), (1, .ref (gB E + a1))]) C.1 C.2.1 dX5_pieces_48 hl (k := 3) rfl rfl (by decide) rfl (fun ls hl => ?_)
        refine lv_goto (tgt := 15) C.1 C.2.1 dX5_pieces_51 (by decide) ?_
        exact ih X hk_a1 (lv_sub hl [3, 2, 1, 0] rfl) h

set_option maxRecDepth 20000 in
theorem w_X5_pieces {r : Int32} {σ : Mem} {a1 : Nat} {ls : Array Slot} {H : Heap} {locs : List Loc} (C : Cx p s m args meth c cX5_pieces (some .int) 5 RX5) (G : Gf E s) (X : Hx E σ s H locs) (hk_a1 : kd a1 = 2) (hl : lv_has ls 5 [(0, .ref (gB E + 387)), (1, .ref (gB E + a1))]) (h : X5_pieces σ a1 = some r) : W p l e (RM 4) s m args below meth c H locs 0 0 (QI E below args s r σ) (F0 m 0 ls []) := by
  rw [X5_pieces] at h
  refine lv_aload_n C.1 C.2.1 dX5_pieces_0 rfl (lv_at hl 1 rfl) ?_
  refine gfX7 C G X (k := a1) hk_a1 0 (v := .int (σ a1 0)) rfl rfl (by decide) k_199 rfl dX5_pieces_1 ?_
  obtain ⟨r4, e4, h⟩ := bnd h
  refine afI X (runN C G X q_X11_bit k_506 nw_12 (c_X11_bit l E e4) rfl hl.1 rfl (Nat.le_of_ble_eq_true rfl) ⟨Nat.le_of_ble_eq_true rfl, Nat.le_of_ble_eq_true rfl⟩ ⟨Nat.le_of_ble_eq_true rfl, Nat.le_of_ble_eq_true rfl⟩ dX5_pieces_4) (fun H locs X => ?_)
  refine lv_iconst (v := 1) C.1 C.2.1 dX5_pieces_7 (by decide) ?_
  refine lv_isub C.1 C.2.1 dX5_pieces_8 ?_
  refine lv_istore_n (lv' := [(2, .int (r4 - (1 : Int32))), (0, .ref (gB E + 387)), (1, .ref (gB E + a1))]) C.1 C.2.1 dX5_pieces_9 rfl hl (by decide) rfl (fun ls hl => ?_)
  refine lv_iconst (v := 0) C.1 C.2.1 dX5_pieces_10 (by decide) ?_
  refine lv_istore_n (lv' := [(3, .int (0 : Int32)), (2, .int (r4 - (1 : Int32))), (0, .ref (gB E + 387)), (1, .ref (gB E + a1))]) C.1 C.2.1 dX5_pieces_11 rfl hl (by decide) rfl (fun ls hl => ?_)
  refine lv_iconst (v := 0) C.1 C.2.1 dX5_pieces_12 (by decide) ?_
  refine lv_istore (lv' := [(4, .int (0 : Int32)), (3, .int (0 : Int32)), (2, .int (r4 - (1 : Int32))), (0, .ref (gB E + 387)), (1, .ref (gB E + a1))]) C.1 C.2.1 dX5_pieces_13 hl (by decide) rfl (fun ls hl => ?_)
  exact w_X5_pieces_15 C G FU X hk_a1 (lv_sub hl [4, 2, 1, 0] rfl) h

theorem c_X5_pieces (l : Launch) (E : GE) {σ : Mem} {a1 : Nat} (hk_a1 : kd a1 = 2) {r : Int32} (h : X5_pieces σ a1 = some r) : CtI l E yX5_pieces cX5_pieces 5 .int 4 [.ref (gB E + 387), .ref (gB E + a1)] σ r σ := by
  refine Met.ofW (cc := cX5_pieces) (maxL := 5) (ret := (some .int)) (by decide) rfl ?_
  intro p e s m args below meth c s₁ B hml hv
  obtain ⟨rfl, G, X⟩ := start hv
  have C := cxof B hml
  have hl := lv_entry [.ref (gB E + 387), .ref (gB E + a1)] (n := 5) (Nat.le_of_ble_eq_true rfl)
  rw [lg_entry_eq]
  generalize (lg_sl [.ref (gB E + 387), .ref (gB E + a1)] ++ List.replicate (5 - (lg_sl [.ref (gB E + 387), .ref (gB E + a1)]).length) Slot.unset).toArray = ls at hl ⊢
  exact w_X5_pieces C G X hk_a1 hl h

set_option maxRecDepth 20000 in
theorem w_X11_parts {r : Int32} {σ : Mem} {ls : Array Slot} {H : Heap} {locs : List Loc} (C : Cx p s m args meth c cX11_parts (some .int) 1 RX11) (G : Gf E s) (X : Hx E σ s H locs) (hl : lv_has ls 1 [(0, .ref (gB E + 0))]) (h : X11_parts σ = some r) : W p l e (RM 5) s m args below meth c H locs 0 0 (QI E below args s r σ) (F0 m 0 ls []) := by
  rw [X11_parts] at h
  refine lv_aload_n C.1 C.2.1 dX11_parts_0 rfl (lv_at hl 0 rfl) ?_
  refine gfX11 C G X (k := 0) kd_0 10 (v := .ref (gB E + 387)) rfl rfl (by decide) k_415 rfl dX11_parts_1 ?_
  refine lv_aload_n C.1 C.2.1 dX11_parts_4 rfl (lv_at hl 0 rfl) ?_
  refine gfX11 C G X (k := 0) kd_0 1 (v := .ref (gB E + 9)) rfl rfl (by decide) k_406 rfl dX11_parts_5 ?_
  obtain ⟨r8, e8, h⟩ := bnd h
  refine afI X (runV C G X q_X5_pieces k_651 k_652 k_650 (rcX5 G X kd_387) (c_X5_pieces l E kd_9 e8) rfl hl.1 rfl (Nat.le_of_ble_eq_true rfl) ⟨Nat.le_of_ble_eq_true rfl, Nat.le_of_ble_eq_true rfl⟩ ⟨Nat.le_of_ble_eq_true rfl, Nat.le_of_ble_eq_true rfl⟩ dX11_parts_8) (fun H locs X => ?_)
  rw [← Option.some.inj h]
  exact rtI C X dX11_parts_11

theorem c_X11_parts (l : Launch) (E : GE) {σ : Mem} {r : Int32} (h : X11_parts σ = some r) : CtI l E yX11_parts cX11_parts 1 .int 5 [.ref (gB E + 0)] σ r σ := by
  refine Met.ofW (cc := cX11_parts) (maxL := 1) (ret := (some .int)) (by decide) rfl ?_
  intro p e s m args below meth c s₁ B hml hv
  obtain ⟨rfl, G, X⟩ := start hv
  have C := cxof B hml
  have hl := lv_entry [.ref (gB E + 0)] (n := 1) (Nat.le_of_ble_eq_true rfl)
  rw [lg_entry_eq]
  generalize (lg_sl [.ref (gB E + 0)] ++ List.replicate (1 - (lg_sl [.ref (gB E + 0)]).length) Slot.unset).toArray = ls at hl ⊢
  exact w_X11_parts C G X hl h

set_option maxRecDepth 20000 in
theorem w_X5_partingPanes_4 {r : Int32} {σ : Mem} (C : Cx p s m args meth c cX5_partingPanes (some .int) 5 RX5) (G : Gf E s) : ∀ (f : Nat) {a1 : Nat} {x2 : Int32} {x3 : Int32} {ls : Array Slot} {H : Heap} {locs : List Loc}, Hx E σ s H locs → kd a1 = 2 → lv_has ls 5 [(1, .ref (gB E + a1)), (2, .int x2), (3, .int x3)] → X5_partingPanes_4 σ f a1 x2 x3 = some r → W p l e (RM 4) s m args below meth c H locs 0 0 (QI E below args s r σ) (F0 m 4 ls []) := by
  intro f
  induction f with
  | zero =>
    intro a1 x2 x3 ls H locs X hk_a1 hl h
    rw [X5_partingPanes_4] at h
    cases h
  | succ f ih =>
    intro a1 x2 x3 ls H locs X hk_a1 hl h
    rw [X5_partingPanes_4] at h
    refine lv_iload_n C.1 C.2.1 dX5_partingPanes_4 rfl (lv_at hl 2 rfl) ?_
    refine lv_aload_n C.1 C.2.1 dX5_partingPanes_5 rfl (lv_at hl 0 rfl) ?_
    refine gfX7 C G X (k := a1) hk_a1 0 (v := .int (σ a1 0)) rfl rfl (by decide) k_199 rfl dX5_partingPanes_6 ?_
    refine lv_icmp_ge (tgt := 61) C.1 C.2.1 dX5_partingPanes_9 (by decide) (fun c9 => ?_) (fun c9 => ?_)
    · replace h := ipos c9 h
      refine lv_iload_n C.1 C.2.1 dX5_partingPanes_61 rfl (lv_at hl 1 rfl) ?_
      rw [← Option.some.inj h]
      exact rtI C X dX5_partingPanes_62
    · replace h := ineg c9 h
      refine lv_aload_n C.1 C.2.1 dX5_partingPanes_12 rfl (lv_at hl 0 rfl) ?_
      refine lv_iload_n C.1 C.2.1 dX5_partingPanes_13 rfl (lv_at hl 2 rfl) ?_
      refine lv_iconst (v := -1) C.1 C.2.1 dX5_partingPanes_14 (by decide) ?_
      obtain ⟨r15, e15, h⟩ := bnd h
      refine afI X (runV C G X q_X7_reached k_656 k_657 k_655 (rcX7 G X hk_a1) (c_X7_reached l E hk_a1 e15) rfl hl.1 rfl (Nat.le_of_ble_eq_true rfl) ⟨Nat.le_of_ble_eq_true rfl, Nat.le_of_ble_eq_true rfl⟩ ⟨Nat.le_of_ble_eq_true rfl, Nat.le_of_ble_eq_true rfl⟩ dX5_partingPanes_15) (fun H locs X => ?_)
      refine lv_iload_n C.1 C.2.1 dX5_partingPanes_18 rfl (lv_at hl 2 rfl) ?_
      obtain ⟨r19, e19, h⟩ := bnd h
      refine afI X (runN C G X q_X11_bit k_506 nw_12 (c_X11_bit l E e19) rfl hl.1 rfl (Nat.le_of_ble_eq_true rfl) ⟨Nat.le_of_ble_eq_true rfl, Nat.le_of_ble_eq_true rfl⟩ ⟨Nat.le_of_ble_eq_true rfl, Nat.le_of_ble_eq_true rfl⟩ dX5_partingPanes_19) (fun H locs X => ?_)
      refine lv_iconst (v := -1) C.1 C.2.1 dX5_partingPanes_22 (by decide) ?_
      refine lv_ixor C.1 C.2.1 dX5_partingPanes_23 ?_
      refine lv_iand C.1 C.2.1 dX5_partingPanes_24 ?_
      refine lv_istore (lv' := [(4, .int (r15 &&& (r19 ^^^ (-1 : Int32)))), (1, .ref (gB E + a1)), (2, .int x2), (3, .int x3)]) C.1 C.2.1 dX5_partingPanes_25 hl (by decide) rfl (fun ls hl => ?_)
      refine lv_iload C.1 C.2.1 dX5_partingPanes_27 (lv_at hl 0 rfl) ?_
      refine lv_if_eq (tgt := 55) C.1 C.2.1 dX5_partingPanes_29 (by decide) (fun c29 => ?_) (fun c29 => ?_)
      · replace h := ipos c29 h
        refine lv_iinc (v := (x3 + 1)) (lv' := [(3, .int (x3 + 1)), (4, .int (r15 &&& (r19 ^^^ (-1 : Int32)))), (1, .ref (gB E + a1)), (2, .int x2)]) C.1 C.2.1 dX5_partingPanes_55 hl (k := 3) rfl rfl (by decide) rfl (fun ls hl => ?_)
        refine lv_goto (tgt := 4) C.1 C.2.1 dX5_partingPanes_58 (by decide) ?_
        exact ih X hk_a1 (lv_sub hl [2, 3, 0] rfl) h
      · replace h := ineg c29 h
        refine lv_aload_n C.1 C.2.1 dX5_partingPanes_32 rfl (lv_at hl 1 rfl) ?_
        refine lv_iload C.1 C.2.1 dX5_partingPanes_33 (lv_at hl 0 rfl) ?_
        obtain ⟨r35, e35, h⟩ := bnd h
        refine afI X (runN C G X q_X11_lowest k_517 nw_14 (c_X11_lowest l E e35) rfl hl.1 rfl (Nat.le_of_ble_eq_true rfl) ⟨Nat.le_of_ble_eq_true rfl, Nat.le_of_ble_eq_true rfl⟩ ⟨Nat.le_of_ble_eq_true rfl, Nat.le_of_ble_eq_true rfl⟩ dX5_partingPanes_35) (fun H locs X => ?_)
        refine lv_iload C.1 C.2.1 dX5_partingPanes_38 (lv_at hl 0 rfl) ?_
        obtain ⟨r40, e40, h⟩ := bnd h
        refine afI X (runV C G X q_X7_reached k_656 k_657 k_655 (rcX7 G X hk_a1) (c_X7_reached l E hk_a1 e40) rfl hl.1 rfl (Nat.le_of_ble_eq_true rfl) ⟨Nat.le_of_ble_eq_true rfl, Nat.le_of_ble_eq_true rfl⟩ ⟨Nat.le_of_ble_eq_true rfl, Nat.le_of_ble_eq_true rfl⟩ dX5_partingPanes_40) (fun H locs X => ?_)
        refine lv_iload C.1 C.2.1 dX5_partingPanes_43 (lv_at hl 0 rfl) ?_
        refine lv_icmp_eq (tgt := 55) C.1 C.2.1 dX5_partingPanes_45 (by decide) (fun c45 => ?_) (fun c45 => ?_)
        · replace h := ipos c45 h
          refine lv_iinc (v := (x3 + 1)) (lv' := [(3, .int (x3 + 1)), (4, .int (r15 &&& (r19 ^^^ (-1 : Int32)))), (1, .ref (gB E + a1)), (2, .int x2)]) C.1 C.2.1 dX5_partingPanes_55 hl (k := 3) rfl rfl (by decide) rfl (fun ls hl => ?_)
          refine lv_goto (tgt := 4) C.1 C.2.1 dX5_partingPanes_58 (by decide) ?_
          exact ih X hk_a1 (lv_sub hl [2, 3, 0] rfl) h
        · replace h := ineg c45 h
          refine lv_iload_n C.1 C.2.1 dX5_partingPanes_48 rfl (lv_at hl 2 rfl) ?_
          refine lv_iload_n C.1 C.2.1 dX5_partingPanes_49 rfl (lv_at hl 3 rfl) ?_
          obtain ⟨r50, e50, h⟩ := bnd h
          refine afI X (runN C G X q_X11_bit k_506 nw_12 (c_X11_bit l E e50) rfl hl.1 rfl (Nat.le_of_ble_eq_true rfl) ⟨Nat.le_of_ble_eq_true rfl, Nat.le_of_ble_eq_true rfl⟩ ⟨Nat.le_of_ble_eq_true rfl, Nat.le_of_ble_eq_true rfl⟩ dX5_partingPanes_50) (fun H locs X => ?_)
          refine lv_ior C.1 C.2.1 dX5_partingPanes_53 ?_
          refine lv_istore_n (lv' := [(2, .int (x2 ||| r50)), (4, .int (r15 &&& (r19 ^^^ (-1 : Int32)))), (1, .ref (gB E + a1)), (3, .int x3)]) C.1 C.2.1 dX5_partingPanes_54 rfl hl (by decide) rfl (fun ls hl => ?_)
          refine lv_iinc (v := (x3 + 1)) (lv' := [(3, .int (x3 + 1)), (2, .int (x2 ||| r50)), (4, .int (r15 &&& (r19 ^^^ (-1 : Int32)))), (1, .ref (gB E + a1))]) C.1 C.2.1 dX5_partingPanes_55 hl (k := 3) rfl rfl (by decide) rfl (fun ls hl => ?_)
          refine lv_goto (tgt := 4) C.1 C.2.1 dX5_partingPanes_58 (by decide) ?_
          exact ih X hk_a1 (lv_sub hl [3, 1, 0] rfl) h

set_option maxRecDepth 20000 in
theorem w_X5_partingPanes {r : Int32} {σ : Mem} {a1 : Nat} {ls : Array Slot} {H : Heap} {locs : List Loc} (C : Cx p s m args meth c cX5_partingPanes (some .int) 5 RX5) (G : Gf E s) (X : Hx E σ s H locs) (hk_a1 : kd a1 = 2) (hl : lv_has ls 5 [(0, .ref (gB E + 387)), (1, .ref (gB E + a1))]) (h : X5_partingPanes σ a1 = some r) : W p l e (RM 4) s m args below meth c H locs 0 0 (QI E below args s r σ) (F0 m 0 ls []) := by
  rw [X5_partingPanes] at h
  refine lv_iconst (v := 0) C.1 C.2.1 dX5_partingPanes_0 (by decide) ?_
  refine lv_istore_n (lv' := [(2, .int (0 : Int32)), (0, .ref (gB E + 387)), (1, .ref (gB E + a1))]) C.1 C.2.1 dX5_partingPanes_1 rfl hl (by decide) rfl (fun ls hl => ?_)
  refine lv_iconst (v := 0) C.1 C.2.1 dX5_partingPanes_2 (by decide) ?_
  refine lv_istore_n (lv' := [(3, .int (0 : Int32)), (2, .int (0 : Int32)), (0, .ref (gB E + 387)), (1, .ref (gB E + a1))]) C.1 C.2.1 dX5_partingPanes_3 rfl hl (by decide) rfl (fun ls hl => ?_)
  exact w_X5_partingPanes_4 C G FU X hk_a1 (lv_sub hl [3, 1, 0] rfl) h

theorem c_X5_partingPanes (l : Launch) (E : GE) {σ : Mem} {a1 : Nat} (hk_a1 : kd a1 = 2) {r : Int32} (h : X5_partingPanes σ a1 = some r) : CtI l E yX5_partingPanes cX5_partingPanes 5 .int 4 [.ref (gB E + 387), .ref (gB E + a1)] σ r σ := by
  refine Met.ofW (cc := cX5_partingPanes) (maxL := 5) (ret := (some .int)) (by decide) rfl ?_
  intro p e s m args below meth c s₁ B hml hv
  obtain ⟨rfl, G, X⟩ := start hv
  have C := cxof B hml
  have hl := lv_entry [.ref (gB E + 387), .ref (gB E + a1)] (n := 5) (Nat.le_of_ble_eq_true rfl)
  rw [lg_entry_eq]
  generalize (lg_sl [.ref (gB E + 387), .ref (gB E + a1)] ++ List.replicate (5 - (lg_sl [.ref (gB E + 387), .ref (gB E + a1)]).length) Slot.unset).toArray = ls at hl ⊢
  exact w_X5_partingPanes C G X hk_a1 hl h

set_option maxRecDepth 20000 in
theorem w_X11_bend {r : Int32} {σ : Mem} {ls : Array Slot} {H : Heap} {locs : List Loc} (C : Cx p s m args meth c cX11_bend (some .int) 1 RX11) (G : Gf E s) (X : Hx E σ s H locs) (hl : lv_has ls 1 [(0, .ref (gB E + 0))]) (h : X11_bend σ = some r) : W p l e (RM 5) s m args below meth c H locs 0 0 (QI E below args s r σ) (F0 m 0 ls []) := by
  rw [X11_bend] at h
  refine lv_aload_n C.1 C.2.1 dX11_bend_0 rfl (lv_at hl 0 rfl) ?_
  refine gfX11 C G X (k := 0) kd_0 10 (v := .ref (gB E + 387)) rfl rfl (by decide) k_415 rfl dX11_bend_1 ?_
  refine lv_aload_n C.1 C.2.1 dX11_bend_4 rfl (lv_at hl 0 rfl) ?_
  refine gfX11 C G X (k := 0) kd_0 1 (v := .ref (gB E + 9)) rfl rfl (by decide) k_406 rfl dX11_bend_5 ?_
  obtain ⟨r8, e8, h⟩ := bnd h
  refine afI X (runV C G X q_X5_partingPanes k_664 k_665 k_663 (rcX5 G X kd_387) (c_X5_partingPanes l E kd_9 e8) rfl hl.1 rfl (Nat.le_of_ble_eq_true rfl) ⟨Nat.le_of_ble_eq_true rfl, Nat.le_of_ble_eq_true rfl⟩ ⟨Nat.le_of_ble_eq_true rfl, Nat.le_of_ble_eq_true rfl⟩ dX11_bend_8) (fun H locs X => ?_)
  rw [← Option.some.inj h]
  exact rtI C X dX11_bend_11

theorem c_X11_bend (l : Launch) (E : GE) {σ : Mem} {r : Int32} (h : X11_bend σ = some r) : CtI l E yX11_bend cX11_bend 1 .int 5 [.ref (gB E + 0)] σ r σ := by
  refine Met.ofW (cc := cX11_bend) (maxL := 1) (ret := (some .int)) (by decide) rfl ?_
  intro p e s m args below meth c s₁ B hml hv
  obtain ⟨rfl, G, X⟩ := start hv
  have C := cxof B hml
  have hl := lv_entry [.ref (gB E + 0)] (n := 1) (Nat.le_of_ble_eq_true rfl)
  rw [lg_entry_eq]
  generalize (lg_sl [.ref (gB E + 0)] ++ List.replicate (1 - (lg_sl [.ref (gB E + 0)]).length) Slot.unset).toArray = ls at hl ⊢
  exact w_X11_bend C G X hl h

set_option maxRecDepth 20000 in
theorem w_X5_waysOutOf_5 {r : Int32} {σ : Mem} (C : Cx p s m args meth c cX5_waysOutOf (some .int) 5 RX5) (G : Gf E s) : ∀ (f : Nat) {a1 : Nat} {x2 : Int32} {x3 : Int32} {x4 : Int32} {ls : Array Slot} {H : Heap} {locs : List Loc}, Hx E σ s H locs → kd a1 = 2 → lv_has ls 5 [(1, .ref (gB E + a1)), (2, .int x2), (3, .int x3), (4, .int x4)] → X5_waysOutOf_5 σ f a1 x2 x3 x4 = some r → W p l e (RM 2) s m args below meth c H locs 0 0 (QI E below args s r σ) (F0 m 5 ls []) := by
  intro f
  induction f with
  | zero =>
    intro a1 x2 x3 x4 ls H locs X hk_a1 hl h
    rw [X5_waysOutOf_5] at h
    cases h
  | succ f ih =>
    intro a1 x2 x3 x4 ls H locs X hk_a1 hl h
    rw [X5_waysOutOf_5] at h
    refine lv_iload C.1 C.2.1 dX5_waysOutOf_5 (lv_at hl 3 rfl) ?_
    refine lv_aload_n C.1 C.2.1 dX5_waysOutOf_7 rfl (lv_at hl 0 rfl) ?_
    refine gfX7 C G X (k := a1) hk_a1 0 (v := .int (σ a1 0)) rfl rfl (by decide) k_199 rfl dX5_waysOutOf_8 ?_
    refine lv_icmp_ge (tgt := 48) C.1 C.2.1 dX5_waysOutOf_11 (by decide) (fun c11 => ?_) (fun c11 => ?_)
    · replace h := ipos c11 h
      refine lv_iload_n C.1 C.2.1 dX5_waysOutOf_48 rfl (lv_at hl 2 rfl) ?_
      rw [← Option.some.inj h]
      exact rtI C X dX5_waysOutOf_49
    · replace h := ineg c11 h
      refine lv_iload_n C.1 C.2.1 dX5_waysOutOf_14 rfl (lv_at hl 1 rfl) ?_
      refine lv_iload C.1 C.2.1 dX5_waysOutOf_15 (lv_at hl 3 rfl) ?_
      obtain ⟨r17, e17, h⟩ := bnd h
      refine afI X (runN C G X q_X11_hasBit k_509 nw_13 (c_X11_hasBit l E e17) rfl hl.1 rfl (Nat.le_of_ble_eq_true rfl) ⟨Nat.le_of_ble_eq_true rfl, Nat.le_of_ble_eq_true rfl⟩ ⟨Nat.le_of_ble_eq_true rfl, Nat.le_of_ble_eq_true rfl⟩ dX5_waysOutOf_17) (fun H locs X => ?_)
      refine lv_if_eq (tgt := 42) C.1 C.2.1 dX5_waysOutOf_20 (by decide) (fun c20 => ?_) (fun c20 => ?_)
      · replace h := ipos c20 h
        refine lv_iinc (v := (x4 + 1)) (lv' := [(4, .int (x4 + 1)), (1, .ref (gB E + a1)), (2, .int x2), (3, .int x3)]) C.1 C.2.1 dX5_waysOutOf_42 hl (k := 3) rfl rfl (by decide) rfl (fun ls hl => ?_)
        refine lv_goto (tgt := 5) C.1 C.2.1 dX5_waysOutOf_45 (by decide) ?_
        exact ih X hk_a1 (lv_sub hl [1, 2, 3, 0] rfl) h
      · replace h := ineg c20 h
        refine lv_iload_n C.1 C.2.1 dX5_waysOutOf_23 rfl (lv_at hl 2 rfl) ?_
        refine lv_aload_n C.1 C.2.1 dX5_waysOutOf_24 rfl (lv_at hl 0 rfl) ?_
        refine gfX7 C G X (k := a1) hk_a1 12 (v := .ref (gB E + (a1 + 7))) rfl rfl (by decide) k_246 rfl dX5_waysOutOf_25 ?_
        refine lv_iload C.1 C.2.1 dX5_waysOutOf_28 (lv_at hl 3 rfl) ?_
        obtain ⟨r30, e30, h⟩ := bnd h
        refine afI X (runV C G X q_X6_get k_498 k_499 k_1433 (rcX6 G X (kf_2_7 hk_a1)) (c_X6_get l E (kf_2_7 hk_a1) e30) rfl hl.1 rfl (Nat.le_of_ble_eq_true rfl) ⟨Nat.le_of_ble_eq_true rfl, Nat.le_of_ble_eq_true rfl⟩ ⟨Nat.le_of_ble_eq_true rfl, Nat.le_of_ble_eq_true rfl⟩ dX5_waysOutOf_30) (fun H locs X => ?_)
        refine lv_iload_n C.1 C.2.1 dX5_waysOutOf_33 rfl (lv_at hl 1 rfl) ?_
        refine lv_iconst (v := -1) C.1 C.2.1 dX5_waysOutOf_34 (by decide) ?_
        refine lv_ixor C.1 C.2.1 dX5_waysOutOf_35 ?_
        refine lv_iand C.1 C.2.1 dX5_waysOutOf_36 ?_
        obtain ⟨r37, e37, h⟩ := bnd h
        refine afI X (runS C G X q_J6_bitCount_0f7a4 k_640 k_639 (c_J6_bitCount_0f7a4 l E e37) rfl hl.1 rfl (Nat.le_of_ble_eq_true rfl) ⟨Nat.le_of_ble_eq_true rfl, Nat.le_of_ble_eq_true rfl⟩ ⟨Nat.le_of_ble_eq_true rfl, Nat.le_of_ble_eq_true rfl⟩ dX5_waysOutOf_37) (fun H locs X => ?_)
        refine lv_iadd C.1 C.2.1 dX5_waysOutOf_40 ?_
        refine lv_istore_n (lv' := [(3, .int (x3 + r37)), (1, .ref (gB E + a1)), (2, .int x2), (4, .int x4)]) C.1 C.2.1 dX5_waysOutOf_41 rfl hl (by decide) rfl (fun ls hl => ?_)
        refine lv_iinc (v := (x4 + 1)) (lv' := [(4, .int (x4 + 1)), (3, .int (x3 + r37)), (1, .ref (gB E + a1)), (2, .int x2)]) C.1 C.2.1 dX5_waysOutOf_42 hl (k := 3) rfl rfl (by decide) rfl (fun ls hl => ?_)
        refine lv_goto (tgt := 5) C.1 C.2.1 dX5_waysOutOf_45 (by decide) ?_
        exact ih X hk_a1 (lv_sub hl [2, 3, 1, 0] rfl) h

set_option maxRecDepth 20000 in
theorem w_X5_waysOutOf {r : Int32} {σ : Mem} {a1 : Nat} {x2 : Int32} {ls : Array Slot} {H : Heap} {locs : List Loc} (C : Cx p s m args meth c cX5_waysOutOf (some .int) 5 RX5) (G : Gf E s) (X : Hx E σ s H locs) (hk_a1 : kd a1 = 2) (hl : lv_has ls 5 [(0, .ref (gB E + 387)), (1, .ref (gB E + a1)), (2, .int x2)]) (h : X5_waysOutOf σ a1 x2 = some r) : W p l e (RM 2) s m args below meth c H locs 0 0 (QI E below args s r σ) (F0 m 0 ls []) := by
  rw [X5_waysOutOf] at h
  refine lv_iconst (v := 0) C.1 C.2.1 dX5_waysOutOf_0 (by decide) ?_
  refine lv_istore_n (lv' := [(3, .int (0 : Int32)), (0, .ref (gB E + 387)), (1, .ref (gB E + a1)), (2, .int x2)]) C.1 C.2.1 dX5_waysOutOf_1 rfl hl (by decide) rfl (fun ls hl => ?_)
  refine lv_iconst (v := 0) C.1 C.2.1 dX5_waysOutOf_2 (by decide) ?_
  refine lv_istore (lv' := [(4, .int (0 : Int32)), (3, .int (0 : Int32)), (0, .ref (gB E + 387)), (1, .ref (gB E + a1)), (2, .int x2)]) C.1 C.2.1 dX5_waysOutOf_3 hl (by decide) rfl (fun ls hl => ?_)
  exact w_X5_waysOutOf_5 C G FU X hk_a1 (lv_sub hl [3, 4, 1, 0] rfl) h

theorem c_X5_waysOutOf (l : Launch) (E : GE) {σ : Mem} {a1 : Nat} {x2 : Int32} (hk_a1 : kd a1 = 2) {r : Int32} (h : X5_waysOutOf σ a1 x2 = some r) : CtI l E yX5_waysOutOf cX5_waysOutOf 5 .int 2 [.ref (gB E + 387), .ref (gB E + a1), .int x2] σ r σ := by
  refine Met.ofW (cc := cX5_waysOutOf) (maxL := 5) (ret := (some .int)) (by decide) rfl ?_
  intro p e s m args below meth c s₁ B hml hv
  obtain ⟨rfl, G, X⟩ := start hv
  have C := cxof B hml
  have hl := lv_entry [.ref (gB E + 387), .ref (gB E + a1), .int x2] (n := 5) (Nat.le_of_ble_eq_true rfl)
  rw [lg_entry_eq]
  generalize (lg_sl [.ref (gB E + 387), .ref (gB E + a1), .int x2] ++ List.replicate (5 - (lg_sl [.ref (gB E + 387), .ref (gB E + a1), .int x2]).length) Slot.unset).toArray = ls at hl ⊢
  exact w_X5_waysOutOf C G X hk_a1 hl h

set_option maxRecDepth 20000 in
theorem w_X5_fewestClosed_15 {r : Int32} {σ : Mem} (C : Cx p s m args meth c cX5_fewestClosed (some .int) 6 RX5) (G : Gf E s) : ∀ (f : Nat) {a1 : Nat} {x2 : Int32} {x3 : Int32} {x4 : Int32} {x5 : Int32} {ls : Array Slot} {H : Heap} {locs : List Loc}, Hx E σ s H locs → kd a1 = 2 → lv_has ls 6 [(0, .ref (gB E + 387)), (1, .ref (gB E + a1)), (2, .int x2), (3, .int x3), (4, .int x4), (5, .int x5)] → X5_fewestClosed_15 σ f a1 x2 x3 x4 x5 = some r → W p l e (RM 3) s m args below meth c H locs 0 0 (QI E below args s r σ) (F0 m 15 ls []) := by
  intro f
  induction f with
  | zero =>
    intro a1 x2 x3 x4 x5 ls H locs X hk_a1 hl h
    rw [X5_fewestClosed_15] at h
    cases h
  | succ f ih =>
    intro a1 x2 x3 x4 x5 ls H locs X hk_a1 hl h
    rw [X5_fewestClosed_15] at h
    refine lv_iload C.1 C.2.1 dX5_fewestClosed_15 (lv_at hl 5 rfl) ?_
    refine lv_aload_n C.1 C.2.1 dX5_fewestClosed_17 rfl (lv_at hl 1 rfl) ?_
    refine gfX7 C G X (k := a1) hk_a1 0 (v := .int (σ a1 0)) rfl rfl (by decide) k_199 rfl dX5_fewestClosed_18 ?_
    obtain ⟨r21, e21, h⟩ := bnd h
    refine afI X (runN C G X q_X11_bit k_506 nw_12 (c_X11_bit l E e21) rfl hl.1 rfl (Nat.le_of_ble_eq_true rfl) ⟨Nat.le_of_ble_eq_true rfl, Nat.le_of_ble_eq_true rfl⟩ ⟨Nat.le_of_ble_eq_true rfl, Nat.le_of_ble_eq_true rfl⟩ dX5_fewestClosed_21) (fun H locs X => ?_)
    refine lv_icmp_ge (tgt := 65) C.1 C.2.1 dX5_fewestClosed_24 (by decide) (fun c24 => ?_) (fun c24 => ?_)
    · replace h := ipos c24 h
      refine lv_iload C.1 C.2.1 dX5_fewestClosed_65 (lv_at hl 4 rfl) ?_
      rw [← Option.some.inj h]
      exact rtI C X dX5_fewestClosed_67
    · replace h := ineg c24 h
      refine lv_iload C.1 C.2.1 dX5_fewestClosed_27 (lv_at hl 5 rfl) ?_
      refine lv_iload_n C.1 C.2.1 dX5_fewestClosed_29 rfl (lv_at hl 2 rfl) ?_
      obtain ⟨r30, e30, h⟩ := bnd h
      refine afI X (runN C G X q_X11_hasBit k_509 nw_13 (c_X11_hasBit l E e30) rfl hl.1 rfl (Nat.le_of_ble_eq_true rfl) ⟨Nat.le_of_ble_eq_true rfl, Nat.le_of_ble_eq_true rfl⟩ ⟨Nat.le_of_ble_eq_true rfl, Nat.le_of_ble_eq_true rfl⟩ dX5_fewestClosed_30) (fun H locs X => ?_)
      refine lv_if_eq (tgt := 59) C.1 C.2.1 dX5_fewestClosed_33 (by decide) (fun c33 => ?_) (fun c33 => ?_)
      · replace h := ipos c33 h
        refine lv_iinc (v := (x5 + 1)) (lv' := [(5, .int (x5 + 1)), (0, .ref (gB E + 387)), (1, .ref (gB E + a1)), (2, .int x2), (3, .int x3), (4, .int x4)]) C.1 C.2.1 dX5_fewestClosed_59 hl (k := 5) rfl rfl (by decide) rfl (fun ls hl => ?_)
        refine lv_goto (tgt := 15) C.1 C.2.1 dX5_fewestClosed_62 (by decide) ?_
        exact ih X hk_a1 (lv_sub hl [1, 2, 3, 4, 5, 0] rfl) h
      · replace h := ineg c33 h
        refine lv_iload C.1 C.2.1 dX5_fewestClosed_36 (lv_at hl 5 rfl) ?_
        refine lv_iload_n C.1 C.2.1 dX5_fewestClosed_38 rfl (lv_at hl 3 rfl) ?_
        obtain ⟨r39, e39, h⟩ := bnd h
        refine afI X (runN C G X q_X11_hasBit k_509 nw_13 (c_X11_hasBit l E e39) rfl hl.1 rfl (Nat.le_of_ble_eq_true rfl) ⟨Nat.le_of_ble_eq_true rfl, Nat.le_of_ble_eq_true rfl⟩ ⟨Nat.le_of_ble_eq_true rfl, Nat.le_of_ble_eq_true rfl⟩ dX5_fewestClosed_39) (fun H locs X => ?_)
        refine lv_if_ne (tgt := 59) C.1 C.2.1 dX5_fewestClosed_42 (by decide) (fun c42 => ?_) (fun c42 => ?_)
        · replace h := ineg c42 h
          refine lv_iinc (v := (x5 + 1)) (lv' := [(5, .int (x5 + 1)), (0, .ref (gB E + 387)), (1, .ref (gB E + a1)), (2, .int x2), (3, .int x3), (4, .int x4)]) C.1 C.2.1 dX5_fewestClosed_59 hl (k := 5) rfl rfl (by decide) rfl (fun ls hl => ?_)
          refine lv_goto (tgt := 15) C.1 C.2.1 dX5_fewestClosed_62 (by decide) ?_
          exact ih X hk_a1 (lv_sub hl [1, 2, 3, 4, 5, 0] rfl) h
        · replace h := ipos c42 h
          refine lv_iload C.1 C.2.1 dX5_fewestClosed_45 (lv_at hl 4 rfl) ?_
          refine lv_aload_n C.1 C.2.1 dX5_fewestClosed_47 rfl (lv_at hl 0 rfl) ?_
          refine lv_aload_n C.1 C.2.1 dX5_fewestClosed_48 rfl (lv_at hl 1 rfl) ?_
          refine lv_iload C.1 C.2.1 dX5_fewestClosed_49 (lv_at hl 5 rfl) ?_
          obtain ⟨r51, e51, h⟩ := bnd h
          refine afI X (runV C G X q_X5_waysOutOf k_1452 kp_19 k_1450 (rcX5 G X kd_387) (c_X5_waysOutOf l E hk_a1 e51) rfl hl.1 rfl (Nat.le_of_ble_eq_true rfl) ⟨Nat.le_of_ble_eq_true rfl, Nat.le_of_ble_eq_true rfl⟩ ⟨Nat.le_of_ble_eq_true rfl, Nat.le_of_ble_eq_true rfl⟩ dX5_fewestClosed_51) (fun H locs X => ?_)
          refine mmin C hl.1 (cells := 0) k_1434 ⟨Nat.le_of_ble_eq_true rfl, Nat.le_of_ble_eq_true rfl, Nat.le_of_ble_eq_true rfl, Nat.le_of_ble_eq_true rfl⟩ dX5_fewestClosed_54 ?_
          refine lv_istore (lv' := [(4, .int (if r51 < x4 then r51 else x4)), (0, .ref (gB E + 387)), (1, .ref (gB E + a1)), (2, .int x2), (3, .int x3), (5, .int x5)]) C.1 C.2.1 dX5_fewestClosed_57 hl (by decide) rfl (fun ls hl => ?_)
          refine lv_iinc (v := (x5 + 1)) (lv' := [(5, .int (x5 + 1)), (4, .int (if r51 < x4 then r51 else x4)), (0, .ref (gB E + 387)), (1, .ref (gB E + a1)), (2, .int x2), (3, .int x3)]) C.1 C.2.1 dX5_fewestClosed_59 hl (k := 5) rfl rfl (by decide) rfl (fun ls hl => ?_)
          refine lv_goto (tgt := 15) C.1 C.2.1 dX5_fewestClosed_62 (by decide) ?_
          exact ih X hk_a1 (lv_sub hl [2, 3, 4, 5, 1, 0] rfl) h

set_option maxRecDepth 20000 in
theorem w_X5_fewestClosed {r : Int32} {σ : Mem} {a1 : Nat} {x2 : Int32} {x3 : Int32} {ls : Array Slot} {H : Heap} {locs : List Loc} (C : Cx p s m args meth c cX5_fewestClosed (some .int) 6 RX5) (G : Gf E s) (X : Hx E σ s H locs) (hk_a1 : kd a1 = 2) (hl : lv_has ls 6 [(0, .ref (gB E + 387)), (1, .ref (gB E + a1)), (2, .int x2), (3, .int x3)]) (h : X5_fewestClosed σ a1 x2 x3 = some r) : W p l e (RM 3) s m args below meth c H locs 0 0 (QI E below args s r σ) (F0 m 0 ls []) := by
  rw [X5_fewestClosed] at h
  refine lv_iload_n C.1 C.2.1 dX5_fewestClosed_0 rfl (lv_at hl 2 rfl) ?_
  refine lv_iload_n C.1 C.2.1 dX5_fewestClosed_1 rfl (lv_at hl 3 rfl) ?_
  refine lv_icmp_ne (tgt := 7) C.1 C.2.1 dX5_fewestClosed_2 (by decide) (fun c2 => ?_) (fun c2 => ?_)
  · replace h := ineg c2 h
    refine lv_sipush (v := 1000) C.1 C.2.1 dX5_fewestClosed_7 (by decide) ?_
    refine lv_istore (lv' := [(4, .int (1000 : Int32)), (0, .ref (gB E + 387)), (1, .ref (gB E + a1)), (2, .int x2), (3, .int x3)]) C.1 C.2.1 dX5_fewestClosed_10 hl (by decide) rfl (fun ls hl => ?_)
    refine lv_iconst (v := 0) C.1 C.2.1 dX5_fewestClosed_12 (by decide) ?_
    refine lv_istore (lv' := [(5, .int (0 : Int32)), (4, .int (1000 : Int32)), (0, .ref (gB E + 387)), (1, .ref (gB E + a1)), (2, .int x2), (3, .int x3)]) C.1 C.2.1 dX5_fewestClosed_13 hl (by decide) rfl (fun ls hl => ?_)
    exact w_X5_fewestClosed_15 C G FU X hk_a1 (lv_sub hl [2, 3, 4, 5, 1, 0] rfl) h
  · replace h := ipos c2 h
    refine lv_iconst (v := -1) C.1 C.2.1 dX5_fewestClosed_5 (by decide) ?_
    rw [← Option.some.inj h]
    exact rtI C X dX5_fewestClosed_6

theorem c_X5_fewestClosed (l : Launch) (E : GE) {σ : Mem} {a1 : Nat} {x2 : Int32} {x3 : Int32} (hk_a1 : kd a1 = 2) {r : Int32} (h : X5_fewestClosed σ a1 x2 x3 = some r) : CtI l E yX5_fewestClosed cX5_fewestClosed 6 .int 3 [.ref (gB E + 387), .ref (gB E + a1), .int x2, .int x3] σ r σ := by
  refine Met.ofW (cc := cX5_fewestClosed) (maxL := 6) (ret := (some .int)) (by decide) rfl ?_
  intro p e s m args below meth c s₁ B hml hv
  obtain ⟨rfl, G, X⟩ := start hv
  have C := cxof B hml
  have hl := lv_entry [.ref (gB E + 387), .ref (gB E + a1), .int x2, .int x3] (n := 6) (Nat.le_of_ble_eq_true rfl)
  rw [lg_entry_eq]
  generalize (lg_sl [.ref (gB E + 387), .ref (gB E + a1), .int x2, .int x3] ++ List.replicate (6 - (lg_sl [.ref (gB E + 387), .ref (gB E + a1), .int x2, .int x3]).length) Slot.unset).toArray = ls at hl ⊢
  exact w_X5_fewestClosed C G X hk_a1 hl h

set_option maxRecDepth 20000 in
theorem w_X11_closed {r : (Int32 ⊕ Nat)} {σ : Mem} {x1 : Int32} {x2 : Int32} {ls : Array Slot} {H : Heap} {locs : List Loc} (C : Cx p s m args meth c cX11_closed (some .int) 3 RX11) (G : Gf E s) (T0 : ∀ x ∈ c.exceptionTable.toList, False) (hT : l.stackTraces = false) (X : Hx E σ s H locs) (hl : lv_has ls 3 [(0, .ref (gB E + 0)), (1, .int x1), (2, .int x2)]) (h : X11_closed σ x1 x2 = some r) : W p l e (RX 13 2) s m args below meth c H locs 0 0 (QX E below args s 2 r σ) (F0 m 0 ls []) := by
  rw [X11_closed] at h
  refine lv_aload_n C.1 C.2.1 dX11_closed_0 rfl (lv_at hl 0 rfl) ?_
  refine lv_iload_n C.1 C.2.1 dX11_closed_1 rfl (lv_at hl 1 rfl) ?_
  rcases bndx h with ⟨r2, e2, h⟩ | ⟨x2_, e2, h⟩
  · refine axV X (runXV C G X q_X11_needPane k_1164 kp_11 k_1162 (rcX11 G X kd_0) (c_X11_needPane l E hT e2) rfl hl.1 rfl (Nat.le_of_ble_eq_true rfl) ⟨Nat.le_of_ble_eq_true rfl, Nat.le_of_ble_eq_true rfl⟩ ⟨Nat.le_of_ble_eq_true rfl, Nat.le_of_ble_eq_true rfl⟩ dX11_closed_2) (fun r9 H locs er X => ?_) (fun x9 H locs q9 ce er X hz hv hcl => nomatch er)
    refine lv_aload_n C.1 C.2.1 dX11_closed_5 rfl (lv_at hl 0 rfl) ?_
    refine lv_iload_n C.1 C.2.1 dX11_closed_6 rfl (lv_at hl 2 rfl) ?_
    rcases bndx h with ⟨r7, e7, h⟩ | ⟨x7_, e7, h⟩
    · refine axV X (runXV C G X q_X11_needPane k_1164 kp_11 k_1162 (rcX11 G X kd_0) (c_X11_needPane l E hT e7) rfl hl.1 rfl (Nat.le_of_ble_eq_true rfl) ⟨Nat.le_of_ble_eq_true rfl, Nat.le_of_ble_eq_true rfl⟩ ⟨Nat.le_of_ble_eq_true rfl, Nat.le_of_ble_eq_true rfl⟩ dX11_closed_7) (fun r9 H locs er X => ?_) (fun x9 H locs q9 ce er X hz hv hcl => nomatch er)
      refine lv_aload_n C.1 C.2.1 dX11_closed_10 rfl (lv_at hl 0 rfl) ?_
      refine gfX11 C G X (k := 0) kd_0 10 (v := .ref (gB E + 387)) rfl rfl (by decide) k_415 rfl dX11_closed_11 ?_
      refine lv_aload_n C.1 C.2.1 dX11_closed_14 rfl (lv_at hl 0 rfl) ?_
      refine gfX11 C G X (k := 0) kd_0 1 (v := .ref (gB E + 9)) rfl rfl (by decide) k_406 rfl dX11_closed_15 ?_
      refine lv_iload_n C.1 C.2.1 dX11_closed_18 rfl (lv_at hl 1 rfl) ?_
      refine lv_iload_n C.1 C.2.1 dX11_closed_19 rfl (lv_at hl 2 rfl) ?_
      obtain ⟨r20, e20, h⟩ := bnd h
      refine afI X (runV C G X q_X5_fewestClosed k_1447 k_1448 k_1446 (rcX5 G X kd_387) (c_X5_fewestClosed l E kd_9 e20) rfl hl.1 rfl (Nat.le_of_ble_eq_true rfl) ⟨Nat.le_of_ble_eq_true rfl, Nat.le_of_ble_eq_true rfl⟩ ⟨Nat.le_of_ble_eq_true rfl, Nat.le_of_ble_eq_true rfl⟩ dX11_closed_20) (fun H locs X => ?_)
      rw [← Option.some.inj h]
      exact vx_ret (rtxI C X dX11_closed_23)
    · refine axV X (runXV C G X q_X11_needPane k_1164 kp_11 k_1162 (rcX11 G X kd_0) (c_X11_needPane l E hT e7) rfl hl.1 rfl (Nat.le_of_ble_eq_true rfl) ⟨Nat.le_of_ble_eq_true rfl, Nat.le_of_ble_eq_true rfl⟩ ⟨Nat.le_of_ble_eq_true rfl, Nat.le_of_ble_eq_true rfl⟩ dX11_closed_7) (fun r9 H locs er X => nomatch er) (fun x9 H locs q9 ce er X hz hv hcl => ?_)
      rw [← Sum.inr.inj er] at hcl
      rw [← Option.some.inj h]
      exact xout C X T0 hz hv hcl (Nat.le_of_ble_eq_true rfl) (Nat.le_of_ble_eq_true rfl)
  · refine axV X (runXV C G X q_X11_needPane k_1164 kp_11 k_1162 (rcX11 G X kd_0) (c_X11_needPane l E hT e2) rfl hl.1 rfl (Nat.le_of_ble_eq_true rfl) ⟨Nat.le_of_ble_eq_true rfl, Nat.le_of_ble_eq_true rfl⟩ ⟨Nat.le_of_ble_eq_true rfl, Nat.le_of_ble_eq_true rfl⟩ dX11_closed_2) (fun r9 H locs er X => nomatch er) (fun x9 H locs q9 ce er X hz hv hcl => ?_)
    rw [← Sum.inr.inj er] at hcl
    rw [← Option.some.inj h]
    exact xout C X T0 hz hv hcl (Nat.le_of_ble_eq_true rfl) (Nat.le_of_ble_eq_true rfl)

theorem c_X11_closed (l : Launch) (E : GE) (hT : l.stackTraces = false) {σ : Mem} {x1 : Int32} {x2 : Int32} {r : (Int32 ⊕ Nat)} (h : X11_closed σ x1 x2 = some r) : CtX l E yX11_closed cX11_closed 3 .int 13 2 [.ref (gB E + 0), .int x1, .int x2] σ r σ := by
  refine vx_ofW (cc := cX11_closed) (maxL := 3) (ret := (some .int)) (by decide) rfl ?_
  intro p e s m args below meth c s₁ B hml T0 hv
  obtain ⟨rfl, G, X⟩ := start hv
  have C := cxof B hml
  have hl := lv_entry [.ref (gB E + 0), .int x1, .int x2] (n := 3) (Nat.le_of_ble_eq_true rfl)
  rw [lg_entry_eq]
  generalize (lg_sl [.ref (gB E + 0), .int x1, .int x2] ++ List.replicate (3 - (lg_sl [.ref (gB E + 0), .int x1, .int x2]).length) Slot.unset).toArray = ls at hl ⊢
  exact w_X11_closed C G T0 hT X hl h

set_option maxRecDepth 20000 in
theorem w_X1_fewestMadeUp_41 {r : (Int32 × Mem)} {σ : Mem} {rc5 : Nat → Nat → Int32 → Int32 → Mem → Option (Int32 × Mem)} {a1 : Nat} {a2 : Nat} {x3 : Int32} {x4 : Int32} {y0 : Int32} {ls : Array Slot} {H : Heap} {locs : List Loc} (C : Cx p s m args meth c cX1_fewestMadeUp (some .int) 6 RX1) (G : Gf E s) (hr5 : ∀ {a1 : Nat} {a2 : Nat} {x3 : Int32} {x4 : Int32} {σ : Mem} {ls : Array Slot} {H : Heap} {locs : List Loc}, Hx E σ s H locs → kd a1 = 2 → kd a2 = 3 → lv_has ls 6 [(0, .ref (gB E + 396)), (1, .ref (gB E + a1)), (2, .ref (gB E + a2)), (3, .int x3), (4, .int x4)] → rc5 a1 a2 x3 x4 σ = some r → W p l e (RM 7) s m args below meth c H locs 0 0 (QI E below args s r.1 r.2) (F0 m 5 ls [])) (X : Hx E σ s H locs) (hk_a1 : kd a1 = 2) (hk_a2 : kd a2 = 3) (hl : lv_has ls 6 [(0, .ref (gB E + 396)), (1, .ref (gB E + a1)), (2, .ref (gB E + a2)), (3, .int x3), (4, .int x4)]) (h : X1_fewestMadeUp_41 rc5 a1 a2 x3 x4 y0 σ = some r) : W p l e (RM 7) s m args below meth c H locs 0 0 (QI E below args s r.1 r.2) (F0 m 41 ls [.int y0]) := by
  rw [X1_fewestMadeUp_41] at h
  refine lv_istore (lv' := [(5, .int y0), (0, .ref (gB E + 396)), (1, .ref (gB E + a1)), (2, .ref (gB E + a2)), (3, .int x3), (4, .int x4)]) C.1 C.2.1 dX1_fewestMadeUp_41 hl (by decide) rfl (fun ls hl => ?_)
  refine lv_iload C.1 C.2.1 dX1_fewestMadeUp_43 (lv_at hl 0 rfl) ?_
  refine lv_if_eq (tgt := 75) C.1 C.2.1 dX1_fewestMadeUp_45 (by decide) (fun c45 => ?_) (fun c45 => ?_)
  · replace h := ipos c45 h
    refine lv_iinc (v := (x4 + 1)) (lv' := [(4, .int (x4 + 1)), (5, .int y0), (0, .ref (gB E + 396)), (1, .ref (gB E + a1)), (2, .ref (gB E + a2)), (3, .int x3)]) C.1 C.2.1 dX1_fewestMadeUp_75 hl (k := 5) rfl rfl (by decide) rfl (fun ls hl => ?_)
    refine lv_goto (tgt := 5) C.1 C.2.1 dX1_fewestMadeUp_78 (by decide) ?_
    exact hr5 X hk_a1 hk_a2 (lv_sub hl [2, 3, 4, 5, 0] rfl) h
  · replace h := ineg c45 h
    refine lv_aload_n C.1 C.2.1 dX1_fewestMadeUp_48 rfl (lv_at hl 1 rfl) ?_
    refine lv_aload_n C.1 C.2.1 dX1_fewestMadeUp_49 rfl (lv_at hl 2 rfl) ?_
    refine lv_aload_n C.1 C.2.1 dX1_fewestMadeUp_50 rfl (lv_at hl 3 rfl) ?_
    refine lv_iload C.1 C.2.1 dX1_fewestMadeUp_51 (lv_at hl 5 rfl) ?_
    obtain ⟨r53, σ53, e53, h⟩ := bnd2 h
    refine afI (r0 := r53) (σ' := σ53) X (runV C G X q_X1_canLight k_623 k_624 k_622 (rcX1 G X kd_396) (c_X1_canLight l E hk_a1 hk_a2 e53) rfl hl.1 rfl (Nat.le_of_ble_eq_true rfl) ⟨Nat.le_of_ble_eq_true rfl, Nat.le_of_ble_eq_true rfl⟩ ⟨Nat.le_of_ble_eq_true rfl, Nat.le_of_ble_eq_true rfl⟩ dX1_fewestMadeUp_53) (fun H locs X => ?_)
    refine lv_if_ne (tgt := 75) C.1 C.2.1 dX1_fewestMadeUp_56 (by decide) (fun c56 => ?_) (fun c56 => ?_)
    · replace h := ineg c56 h
      refine lv_iinc (v := (x4 + 1)) (lv' := [(4, .int (x4 + 1)), (5, .int y0), (0, .ref (gB E + 396)), (1, .ref (gB E + a1)), (2, .ref (gB E + a2)), (3, .int x3)]) C.1 C.2.1 dX1_fewestMadeUp_75 hl (k := 5) rfl rfl (by decide) rfl (fun ls hl => ?_)
      refine lv_goto (tgt := 5) C.1 C.2.1 dX1_fewestMadeUp_78 (by decide) ?_
      exact hr5 X hk_a1 hk_a2 (lv_sub hl [2, 3, 4, 5, 0] rfl) h
    · replace h := ipos c56 h
      refine lv_aload_n C.1 C.2.1 dX1_fewestMadeUp_59 rfl (lv_at hl 1 rfl) ?_
      refine lv_aload_n C.1 C.2.1 dX1_fewestMadeUp_60 rfl (lv_at hl 2 rfl) ?_
      refine lv_aload_n C.1 C.2.1 dX1_fewestMadeUp_61 rfl (lv_at hl 3 rfl) ?_
      refine lv_iload C.1 C.2.1 dX1_fewestMadeUp_62 (lv_at hl 5 rfl) ?_
      obtain ⟨r64, σ64, e64, h⟩ := bnd2 h
      refine afI (r0 := r64) (σ' := σ64) X (runV C G X q_X1_whyDark k_677 k_678 k_676 (rcX1 G X kd_396) (c_X1_whyDark l E hk_a1 hk_a2 e64) rfl hl.1 rfl (Nat.le_of_ble_eq_true rfl) ⟨Nat.le_of_ble_eq_true rfl, Nat.le_of_ble_eq_true rfl⟩ ⟨Nat.le_of_ble_eq_true rfl, Nat.le_of_ble_eq_true rfl⟩ dX1_fewestMadeUp_64) (fun H locs X => ?_)
      refine lv_if_ne (tgt := 72) C.1 C.2.1 dX1_fewestMadeUp_67 (by decide) (fun c67 => ?_) (fun c67 => ?_)
      · replace h := ineg c67 h
        refine lv_iinc (v := (x3 + 1)) (lv' := [(3, .int (x3 + 1)), (5, .int y0), (0, .ref (gB E + 396)), (1, .ref (gB E + a1)), (2, .ref (gB E + a2)), (4, .int x4)]) C.1 C.2.1 dX1_fewestMadeUp_72 hl (k := 4) rfl rfl (by decide) rfl (fun ls hl => ?_)
        refine lv_iinc (v := (x4 + 1)) (lv' := [(4, .int (x4 + 1)), (3, .int (x3 + 1)), (5, .int y0), (0, .ref (gB E + 396)), (1, .ref (gB E + a1)), (2, .ref (gB E + a2))]) C.1 C.2.1 dX1_fewestMadeUp_75 hl (k := 5) rfl rfl (by decide) rfl (fun ls hl => ?_)
        refine lv_goto (tgt := 5) C.1 C.2.1 dX1_fewestMadeUp_78 (by decide) ?_
        exact hr5 X hk_a1 hk_a2 (lv_sub hl [3, 4, 5, 1, 0] rfl) h
      · replace h := ipos c67 h
        refine lv_iconst (v := -1) C.1 C.2.1 dX1_fewestMadeUp_70 (by decide) ?_
        rw [← Option.some.inj h]
        exact rtI C X dX1_fewestMadeUp_71

set_option maxRecDepth 20000 in
theorem w_X1_fewestMadeUp_40 {r : (Int32 × Mem)} {σ : Mem} {rc5 : Nat → Nat → Int32 → Int32 → Mem → Option (Int32 × Mem)} {a1 : Nat} {a2 : Nat} {x3 : Int32} {x4 : Int32} {ls : Array Slot} {H : Heap} {locs : List Loc} (C : Cx p s m args meth c cX1_fewestMadeUp (some .int) 6 RX1) (G : Gf E s) (hr5 : ∀ {a1 : Nat} {a2 : Nat} {x3 : Int32} {x4 : Int32} {σ : Mem} {ls : Array Slot} {H : Heap} {locs : List Loc}, Hx E σ s H locs → kd a1 = 2 → kd a2 = 3 → lv_has ls 6 [(0, .ref (gB E + 396)), (1, .ref (gB E + a1)), (2, .ref (gB E + a2)), (3, .int x3), (4, .int x4)] → rc5 a1 a2 x3 x4 σ = some r → W p l e (RM 7) s m args below meth c H locs 0 0 (QI E below args s r.1 r.2) (F0 m 5 ls [])) (X : Hx E σ s H locs) (hk_a1 : kd a1 = 2) (hk_a2 : kd a2 = 3) (hl : lv_has ls 6 [(0, .ref (gB E + 396)), (1, .ref (gB E + a1)), (2, .ref (gB E + a2)), (3, .int x3), (4, .int x4)]) (h : X1_fewestMadeUp_40 rc5 a1 a2 x3 x4 σ = some r) : W p l e (RM 7) s m args below meth c H locs 0 0 (QI E below args s r.1 r.2) (F0 m 40 ls []) := by
  rw [X1_fewestMadeUp_40] at h
  refine lv_iconst (v := 0) C.1 C.2.1 dX1_fewestMadeUp_40 (by decide) ?_
  exact w_X1_fewestMadeUp_41 C G hr5 X hk_a1 hk_a2 (lv_sub hl [0, 1, 2, 3, 4] rfl) h

set_option maxRecDepth 20000 in
theorem w_X1_fewestMadeUp_5 {r : (Int32 × Mem)} (C : Cx p s m args meth c cX1_fewestMadeUp (some .int) 6 RX1) (G : Gf E s) : ∀ (f : Nat) {a1 : Nat} {a2 : Nat} {x3 : Int32} {x4 : Int32} {σ : Mem} {ls : Array Slot} {H : Heap} {locs : List Loc}, Hx E σ s H locs → kd a1 = 2 → kd a2 = 3 → lv_has ls 6 [(0, .ref (gB E + 396)), (1, .ref (gB E + a1)), (2, .ref (gB E + a2)), (3, .int x3), (4, .int x4)] → X1_fewestMadeUp_5 f a1 a2 x3 x4 σ = some r → W p l e (RM 7) s m args below meth c H locs 0 0 (QI E below args s r.1 r.2) (F0 m 5 ls []) := by
  intro f
  induction f with
  | zero =>
    intro a1 a2 x3 x4 σ ls H locs X hk_a1 hk_a2 hl h
    rw [X1_fewestMadeUp_5] at h
    cases h
  | succ f ih =>
    intro a1 a2 x3 x4 σ ls H locs X hk_a1 hk_a2 hl h
    rw [X1_fewestMadeUp_5] at h
    refine lv_iload C.1 C.2.1 dX1_fewestMadeUp_5 (lv_at hl 4 rfl) ?_
    refine lv_aload_n C.1 C.2.1 dX1_fewestMadeUp_7 rfl (lv_at hl 1 rfl) ?_
    refine gfX7 C G X (k := a1) hk_a1 0 (v := .int (σ a1 0)) rfl rfl (by decide) k_202 rfl dX1_fewestMadeUp_8 ?_
    refine lv_icmp_ge (tgt := 81) C.1 C.2.1 dX1_fewestMadeUp_11 (by decide) (fun c11 => ?_) (fun c11 => ?_)
    · replace h := ipos c11 h
      refine lv_iload_n C.1 C.2.1 dX1_fewestMadeUp_81 rfl (lv_at hl 3 rfl) ?_
      rw [← Option.some.inj h]
      exact rtI C X dX1_fewestMadeUp_82
    · replace h := ineg c11 h
      refine lv_aload_n C.1 C.2.1 dX1_fewestMadeUp_14 rfl (lv_at hl 1 rfl) ?_
      refine lv_iload C.1 C.2.1 dX1_fewestMadeUp_15 (lv_at hl 4 rfl) ?_
      obtain ⟨r17, e17, h⟩ := bnd h
      refine afI X (runV C G X q_X7_isBurning k_538 k_539 k_621 (rcX7 G X hk_a1) (c_X7_isBurning l E hk_a1 e17) rfl hl.1 rfl (Nat.le_of_ble_eq_true rfl) ⟨Nat.le_of_ble_eq_true rfl, Nat.le_of_ble_eq_true rfl⟩ ⟨Nat.le_of_ble_eq_true rfl, Nat.le_of_ble_eq_true rfl⟩ dX1_fewestMadeUp_17) (fun H locs X => ?_)
      refine lv_if_ne (tgt := 40) C.1 C.2.1 dX1_fewestMadeUp_20 (by decide) (fun c20 => ?_) (fun c20 => ?_)
      · replace h := ineg c20 h
        exact w_X1_fewestMadeUp_40 C G ih X hk_a1 hk_a2 (lv_sub hl [0, 1, 2, 3, 4] rfl) h
      · replace h := ipos c20 h
        refine lv_aload_n C.1 C.2.1 dX1_fewestMadeUp_23 rfl (lv_at hl 1 rfl) ?_
        refine gfX7 C G X (k := a1) hk_a1 10 (v := .ref (gB E + (a1 + 3))) rfl rfl (by decide) k_236 rfl dX1_fewestMadeUp_24 ?_
        refine lv_iload C.1 C.2.1 dX1_fewestMadeUp_27 (lv_at hl 4 rfl) ?_
        obtain ⟨r29, e29, h⟩ := bnd h
        refine afI X (runV C G X q_X6_get k_498 k_499 k_627 (rcX6 G X (kf_2_3 hk_a1)) (c_X6_get l E (kf_2_3 hk_a1) e29) rfl hl.1 rfl (Nat.le_of_ble_eq_true rfl) ⟨Nat.le_of_ble_eq_true rfl, Nat.le_of_ble_eq_true rfl⟩ ⟨Nat.le_of_ble_eq_true rfl, Nat.le_of_ble_eq_true rfl⟩ dX1_fewestMadeUp_29) (fun H locs X => ?_)
        refine lv_iconst (v := -1) C.1 C.2.1 dX1_fewestMadeUp_32 (by decide) ?_
        refine lv_icmp_eq (tgt := 40) C.1 C.2.1 dX1_fewestMadeUp_33 (by decide) (fun c33 => ?_) (fun c33 => ?_)
        · replace h := ipos c33 h
          exact w_X1_fewestMadeUp_40 C G ih X hk_a1 hk_a2 (lv_sub hl [0, 1, 2, 3, 4] rfl) h
        · replace h := ineg c33 h
          refine lv_iconst (v := 1) C.1 C.2.1 dX1_fewestMadeUp_36 (by decide) ?_
          refine lv_goto (tgt := 41) C.1 C.2.1 dX1_fewestMadeUp_37 (by decide) ?_
          exact w_X1_fewestMadeUp_41 C G ih X hk_a1 hk_a2 (lv_sub hl [0, 1, 2, 3, 4] rfl) h

set_option maxRecDepth 20000 in
theorem w_X1_fewestMadeUp {r : (Int32 × Mem)} {σ : Mem} {a1 : Nat} {a2 : Nat} {ls : Array Slot} {H : Heap} {locs : List Loc} (C : Cx p s m args meth c cX1_fewestMadeUp (some .int) 6 RX1) (G : Gf E s) (X : Hx E σ s H locs) (hk_a1 : kd a1 = 2) (hk_a2 : kd a2 = 3) (hl : lv_has ls 6 [(0, .ref (gB E + 396)), (1, .ref (gB E + a1)), (2, .ref (gB E + a2))]) (h : X1_fewestMadeUp a1 a2 σ = some r) : W p l e (RM 7) s m args below meth c H locs 0 0 (QI E below args s r.1 r.2) (F0 m 0 ls []) := by
  rw [X1_fewestMadeUp] at h
  refine lv_iconst (v := 0) C.1 C.2.1 dX1_fewestMadeUp_0 (by decide) ?_
  refine lv_istore_n (lv' := [(3, .int (0 : Int32)), (0, .ref (gB E + 396)), (1, .ref (gB E + a1)), (2, .ref (gB E + a2))]) C.1 C.2.1 dX1_fewestMadeUp_1 rfl hl (by decide) rfl (fun ls hl => ?_)
  refine lv_iconst (v := 0) C.1 C.2.1 dX1_fewestMadeUp_2 (by decide) ?_
  refine lv_istore (lv' := [(4, .int (0 : Int32)), (3, .int (0 : Int32)), (0, .ref (gB E + 396)), (1, .ref (gB E + a1)), (2, .ref (gB E + a2))]) C.1 C.2.1 dX1_fewestMadeUp_3 hl (by decide) rfl (fun ls hl => ?_)
  exact w_X1_fewestMadeUp_5 C G FU X hk_a1 hk_a2 (lv_sub hl [2, 3, 4, 1, 0] rfl) h

theorem c_X1_fewestMadeUp (l : Launch) (E : GE) {σ : Mem} {a1 : Nat} {a2 : Nat} (hk_a1 : kd a1 = 2) (hk_a2 : kd a2 = 3) {r : (Int32 × Mem)} (h : X1_fewestMadeUp a1 a2 σ = some r) : CtI l E yX1_fewestMadeUp cX1_fewestMadeUp 6 .int 7 [.ref (gB E + 396), .ref (gB E + a1), .ref (gB E + a2)] σ r.1 r.2 := by
  refine Met.ofW (cc := cX1_fewestMadeUp) (maxL := 6) (ret := (some .int)) (by decide) rfl ?_
  intro p e s m args below meth c s₁ B hml hv
  obtain ⟨rfl, G, X⟩ := start hv
  have C := cxof B hml
  have hl := lv_entry [.ref (gB E + 396), .ref (gB E + a1), .ref (gB E + a2)] (n := 6) (Nat.le_of_ble_eq_true rfl)
  rw [lg_entry_eq]
  generalize (lg_sl [.ref (gB E + 396), .ref (gB E + a1), .ref (gB E + a2)] ++ List.replicate (6 - (lg_sl [.ref (gB E + 396), .ref (gB E + a1), .ref (gB E + a2)]).length) Slot.unset).toArray = ls at hl ⊢
  exact w_X1_fewestMadeUp C G X hk_a1 hk_a2 hl h

set_option maxRecDepth 20000 in
theorem w_X11_madeUp {r : (Int32 × Mem)} {σ : Mem} {ls : Array Slot} {H : Heap} {locs : List Loc} (C : Cx p s m args meth c cX11_madeUp (some .int) 1 RX11) (G : Gf E s) (X : Hx E σ s H locs) (hl : lv_has ls 1 [(0, .ref (gB E + 0))]) (h : X11_madeUp σ = some r) : W p l e (RM 8) s m args below meth c H locs 0 0 (QI E below args s r.1 r.2) (F0 m 0 ls []) := by
  rw [X11_madeUp] at h
  refine lv_aload_n C.1 C.2.1 dX11_madeUp_0 rfl (lv_at hl 0 rfl) ?_
  refine gfX11 C G X (k := 0) kd_0 11 (v := .ref (gB E + 396)) rfl rfl (by decide) k_416 rfl dX11_madeUp_1 ?_
  refine lv_aload_n C.1 C.2.1 dX11_madeUp_4 rfl (lv_at hl 0 rfl) ?_
  refine gfX11 C G X (k := 0) kd_0 1 (v := .ref (gB E + 9)) rfl rfl (by decide) k_406 rfl dX11_madeUp_5 ?_
  refine lv_aload_n C.1 C.2.1 dX11_madeUp_8 rfl (lv_at hl 0 rfl) ?_
  refine gfX11 C G X (k := 0) kd_0 4 (v := .ref (gB E + 72)) rfl rfl (by decide) k_409 rfl dX11_madeUp_9 ?_
  obtain ⟨r12, σ12, e12, h⟩ := bnd2 h
  refine afI (r0 := r12) (σ' := σ12) X (runV C G X q_X1_fewestMadeUp k_673 k_674 k_672 (rcX1 G X kd_396) (c_X1_fewestMadeUp l E kd_9 kd_72 e12) rfl hl.1 rfl (Nat.le_of_ble_eq_true rfl) ⟨Nat.le_of_ble_eq_true rfl, Nat.le_of_ble_eq_true rfl⟩ ⟨Nat.le_of_ble_eq_true rfl, Nat.le_of_ble_eq_true rfl⟩ dX11_madeUp_12) (fun H locs X => ?_)
  rw [← Option.some.inj h]
  exact rtI C X dX11_madeUp_15

theorem c_X11_madeUp (l : Launch) (E : GE) {σ : Mem} {r : (Int32 × Mem)} (h : X11_madeUp σ = some r) : CtI l E yX11_madeUp cX11_madeUp 1 .int 8 [.ref (gB E + 0)] σ r.1 r.2 := by
  refine Met.ofW (cc := cX11_madeUp) (maxL := 1) (ret := (some .int)) (by decide) rfl ?_
  intro p e s m args below meth c s₁ B hml hv
  obtain ⟨rfl, G, X⟩ := start hv
  have C := cxof B hml
  have hl := lv_entry [.ref (gB E + 0)] (n := 1) (Nat.le_of_ble_eq_true rfl)
  rw [lg_entry_eq]
  generalize (lg_sl [.ref (gB E + 0)] ++ List.replicate (1 - (lg_sl [.ref (gB E + 0)]).length) Slot.unset).toArray = ls at hl ⊢
  exact w_X11_madeUp C G X hl h

set_option maxRecDepth 20000 in
theorem w_X5_isWalk_17 {r : Int32} {σ : Mem} (C : Cx p s m args meth c cX5_isWalk (some .boolean) 5 RX5) (G : Gf E s) : ∀ (f : Nat) {a1 : Nat} {x3 : Int32} {x4 : Int32} {ls : Array Slot} {H : Heap} {locs : List Loc}, Hx E σ s H locs → kd a1 = 2 → lv_has ls 5 [(1, .ref (gB E + a1)), (2, .ref (gB E + 1)), (3, .int x3), (4, .int x4)] → X5_isWalk_17 σ f a1 x3 x4 = some r → W p l e (RM 3) s m args below meth c H locs 0 0 (QI E below args s r σ) (F0 m 17 ls []) := by
  intro f
  induction f with
  | zero =>
    intro a1 x3 x4 ls H locs X hk_a1 hl h
    rw [X5_isWalk_17] at h
    cases h
  | succ f ih =>
    intro a1 x3 x4 ls H locs X hk_a1 hl h
    rw [X5_isWalk_17] at h
    refine lv_iload C.1 C.2.1 dX5_isWalk_17 (lv_at hl 3 rfl) ?_
    refine lv_iload_n C.1 C.2.1 dX5_isWalk_19 rfl (lv_at hl 2 rfl) ?_
    refine lv_icmp_ge (tgt := 57) C.1 C.2.1 dX5_isWalk_20 (by decide) (fun c20 => ?_) (fun c20 => ?_)
    · replace h := ipos c20 h
      refine lv_iconst (v := 1) C.1 C.2.1 dX5_isWalk_57 (by decide) ?_
      obtain ⟨u58, z58, h⟩ := bnd h
      rw [← Option.some.inj h]
      exact rtZ C X (gb_s z58) dX5_isWalk_58
    · replace h := ineg c20 h
      refine lv_aload_n C.1 C.2.1 dX5_isWalk_23 rfl (lv_at hl 1 rfl) ?_
      refine lv_iload C.1 C.2.1 dX5_isWalk_24 (lv_at hl 3 rfl) ?_
      obtain ⟨r26, e26, h⟩ := bnd h
      refine afI X (runV C G X q_X10_byteAt k_1411 k_1412 k_1410 (rcX10 G X kd_1) (c_X10_byteAt l E e26) rfl hl.1 rfl (Nat.le_of_ble_eq_true rfl) ⟨Nat.le_of_ble_eq_true rfl, Nat.le_of_ble_eq_true rfl⟩ ⟨Nat.le_of_ble_eq_true rfl, Nat.le_of_ble_eq_true rfl⟩ dX5_isWalk_26) (fun H locs X => ?_)
      refine lv_aload_n C.1 C.2.1 dX5_isWalk_29 rfl (lv_at hl 0 rfl) ?_
      refine gfX7 C G X (k := a1) hk_a1 0 (v := .int (σ a1 0)) rfl rfl (by decide) k_199 rfl dX5_isWalk_30 ?_
      refine lv_icmp_ge (tgt := 49) C.1 C.2.1 dX5_isWalk_33 (by decide) (fun c33 => ?_) (fun c33 => ?_)
      · replace h := ipos c33 h
        refine lv_iconst (v := 0) C.1 C.2.1 dX5_isWalk_49 (by decide) ?_
        obtain ⟨u50, z50, h⟩ := bnd h
        rw [← Option.some.inj h]
        exact rtZ C X (gb_s z50) dX5_isWalk_50
      · replace h := ineg c33 h
        refine lv_aload_n C.1 C.2.1 dX5_isWalk_36 rfl (lv_at hl 1 rfl) ?_
        refine lv_iload C.1 C.2.1 dX5_isWalk_37 (lv_at hl 3 rfl) ?_
        refine lv_iconst (v := 1) C.1 C.2.1 dX5_isWalk_39 (by decide) ?_
        refine lv_iadd C.1 C.2.1 dX5_isWalk_40 ?_
        obtain ⟨r41, e41, h⟩ := bnd h
        refine afI X (runV C G X q_X10_byteAt k_1411 k_1412 k_1410 (rcX10 G X kd_1) (c_X10_byteAt l E e41) rfl hl.1 rfl (Nat.le_of_ble_eq_true rfl) ⟨Nat.le_of_ble_eq_true rfl, Nat.le_of_ble_eq_true rfl⟩ ⟨Nat.le_of_ble_eq_true rfl, Nat.le_of_ble_eq_true rfl⟩ dX5_isWalk_41) (fun H locs X => ?_)
        refine lv_bipush (v := 20) C.1 C.2.1 dX5_isWalk_44 (by decide) ?_
        refine lv_icmp_le (tgt := 51) C.1 C.2.1 dX5_isWalk_46 (by decide) (fun c46 => ?_) (fun c46 => ?_)
        · replace h := ipos c46 h
          refine lv_iinc (v := (x4 + 2)) (lv' := [(4, .int (x4 + 2)), (1, .ref (gB E + a1)), (2, .ref (gB E + 1)), (3, .int x3)]) C.1 C.2.1 dX5_isWalk_51 hl (k := 3) rfl rfl (by decide) rfl (fun ls hl => ?_)
          refine lv_goto (tgt := 17) C.1 C.2.1 dX5_isWalk_54 (by decide) ?_
          exact ih X hk_a1 (lv_sub hl [1, 2, 3, 0] rfl) h
        · replace h := ineg c46 h
          refine lv_iconst (v := 0) C.1 C.2.1 dX5_isWalk_49 (by decide) ?_
          obtain ⟨u50, z50, h⟩ := bnd h
          rw [← Option.some.inj h]
          exact rtZ C X (gb_s z50) dX5_isWalk_50

set_option maxRecDepth 20000 in
theorem w_X5_isWalk {r : Int32} {σ : Mem} {a1 : Nat} {x3 : Int32} {ls : Array Slot} {H : Heap} {locs : List Loc} (C : Cx p s m args meth c cX5_isWalk (some .boolean) 5 RX5) (G : Gf E s) (X : Hx E σ s H locs) (hk_a1 : kd a1 = 2) (hl : lv_has ls 5 [(0, .ref (gB E + 387)), (1, .ref (gB E + a1)), (2, .ref (gB E + 1)), (3, .int x3)]) (h : X5_isWalk σ a1 x3 = some r) : W p l e (RM 3) s m args below meth c H locs 0 0 (QI E below args s r σ) (F0 m 0 ls []) := by
  rw [X5_isWalk] at h
  refine lv_iload_n C.1 C.2.1 dX5_isWalk_0 rfl (lv_at hl 3 rfl) ?_
  refine lv_bipush (v := 40) C.1 C.2.1 dX5_isWalk_1 (by decide) ?_
  refine lv_icmp_gt (tgt := 12) C.1 C.2.1 dX5_isWalk_3 (by decide) (fun c3 => ?_) (fun c3 => ?_)
  · replace h := ipos c3 h
    refine lv_iconst (v := 0) C.1 C.2.1 dX5_isWalk_12 (by decide) ?_
    obtain ⟨u13, z13, h⟩ := bnd h
    rw [← Option.some.inj h]
    exact rtZ C X (gb_s z13) dX5_isWalk_13
  · replace h := ineg c3 h
    refine lv_iload_n C.1 C.2.1 dX5_isWalk_6 rfl (lv_at hl 3 rfl) ?_
    refine lv_iconst (v := 2) C.1 C.2.1 dX5_isWalk_7 (by decide) ?_
    refine lv_irem C.1 C.2.1 dX5_isWalk_8 (by decide) ?_
    refine lv_if_eq (tgt := 14) C.1 C.2.1 dX5_isWalk_9 (by decide) (fun c9 => ?_) (fun c9 => ?_)
    · replace h := ipos c9 h
      refine lv_iconst (v := 0) C.1 C.2.1 dX5_isWalk_14 (by decide) ?_
      refine lv_istore (lv' := [(4, .int (0 : Int32)), (0, .ref (gB E + 387)), (1, .ref (gB E + a1)), (2, .ref (gB E + 1)), (3, .int x3)]) C.1 C.2.1 dX5_isWalk_15 hl (by decide) rfl (fun ls hl => ?_)
      exact w_X5_isWalk_17 C G FU X hk_a1 (lv_sub hl [2, 3, 4, 0] rfl) h
    · replace h := ineg c9 h
      refine lv_iconst (v := 0) C.1 C.2.1 dX5_isWalk_12 (by decide) ?_
      obtain ⟨u13, z13, h⟩ := bnd h
      rw [← Option.some.inj h]
      exact rtZ C X (gb_s z13) dX5_isWalk_13

theorem c_X5_isWalk (l : Launch) (E : GE) {σ : Mem} {a1 : Nat} {x3 : Int32} (hk_a1 : kd a1 = 2) {r : Int32} (h : X5_isWalk σ a1 x3 = some r) : CtI l E yX5_isWalk cX5_isWalk 5 .boolean 3 [.ref (gB E + 387), .ref (gB E + a1), .ref (gB E + 1), .int x3] σ r σ := by
  refine Met.ofW (cc := cX5_isWalk) (maxL := 5) (ret := (some .boolean)) (by decide) rfl ?_
  intro p e s m args below meth c s₁ B hml hv
  obtain ⟨rfl, G, X⟩ := start hv
  have C := cxof B hml
  have hl := lv_entry [.ref (gB E + 387), .ref (gB E + a1), .ref (gB E + 1), .int x3] (n := 5) (Nat.le_of_ble_eq_true rfl)
  rw [lg_entry_eq]
  generalize (lg_sl [.ref (gB E + 387), .ref (gB E + a1), .ref (gB E + 1), .int x3] ++ List.replicate (5 - (lg_sl [.ref (gB E + 387), .ref (gB E + a1), .ref (gB E + 1), .int x3]).length) Slot.unset).toArray = ls at hl ⊢
  exact w_X5_isWalk C G X hk_a1 hl h

set_option maxRecDepth 20000 in
theorem w_J7_fill_53178_5 {r : Mem} (C : Cx p s m args meth c cJ7_fill_53178 none 4 RJ7) (G : Gf E s) : ∀ (f : Nat) {a0 : Nat} {x1 : Int32} {x2 : Int32} {x3 : Int32} {σ : Mem} {ls : Array Slot} {H : Heap} {locs : List Loc}, Hx E σ s H locs → kd a0 = 0 → lv_has ls 4 [(0, .ref (gB E + a0)), (1, .int x1), (2, .int x2), (3, .int x3)] → J7_fill_53178_5 f a0 x1 x2 x3 σ = some r → W p l e (RM 1) s m args below meth c H locs 0 0 (QV E below args s r) (F0 m 5 ls []) := by
  intro f
  induction f with
  | zero =>
    intro a0 x1 x2 x3 σ ls H locs X hk_a0 hl h
    rw [J7_fill_53178_5] at h
    cases h
  | succ f ih =>
    intro a0 x1 x2 x3 σ ls H locs X hk_a0 hl h
    rw [J7_fill_53178_5] at h
    refine lv_iload_n C.1 C.2.1 dJ7_fill_53178_5 rfl (lv_at hl 2 rfl) ?_
    refine lv_iload_n C.1 C.2.1 dJ7_fill_53178_6 rfl (lv_at hl 3 rfl) ?_
    refine lv_icmp_ge (tgt := 20) C.1 C.2.1 dJ7_fill_53178_7 (by decide) (fun c7 => ?_) (fun c7 => ?_)
    · replace h := ipos c7 h
      rw [← Option.some.inj h]
      exact rtV C X dJ7_fill_53178_20
    · replace h := ineg c7 h
      refine lv_aload_n C.1 C.2.1 dJ7_fill_53178_10 rfl (lv_at hl 0 rfl) ?_
      refine lv_iload_n C.1 C.2.1 dJ7_fill_53178_11 rfl (lv_at hl 2 rfl) ?_
      refine lv_iload_n C.1 C.2.1 dJ7_fill_53178_12 rfl (lv_at hl 1 rfl) ?_
      obtain ⟨σ13, e13, h⟩ := bnd h
      refine ast C G X (k := a0) hk_a0 (au_s e13).1 dJ7_fill_53178_13 (fun H locs X => ?_)
      rw [(au_s e13).2] at X
      refine lv_iinc (v := (x2 + 1)) (lv' := [(2, .int (x2 + 1)), (0, .ref (gB E + a0)), (1, .int x1), (3, .int x3)]) C.1 C.2.1 dJ7_fill_53178_14 hl (k := 2) rfl rfl (by decide) rfl (fun ls hl => ?_)
      refine lv_goto (tgt := 5) C.1 C.2.1 dJ7_fill_53178_17 (by decide) ?_
      exact ih X hk_a0 (lv_sub hl [1, 2, 0, 3] rfl) h

set_option maxRecDepth 20000 in
theorem w_J7_fill_53178 {r : Mem} {σ : Mem} {a0 : Nat} {x1 : Int32} {ls : Array Slot} {H : Heap} {locs : List Loc} (C : Cx p s m args meth c cJ7_fill_53178 none 4 RJ7) (G : Gf E s) (X : Hx E σ s H locs) (hk_a0 : kd a0 = 0) (hl : lv_has ls 4 [(0, .ref (gB E + a0)), (1, .int x1)]) (h : J7_fill_53178 a0 x1 σ = some r) : W p l e (RM 1) s m args below meth c H locs 0 0 (QV E below args s r) (F0 m 0 ls []) := by
  rw [J7_fill_53178] at h
  refine lv_iconst (v := 0) C.1 C.2.1 dJ7_fill_53178_0 (by decide) ?_
  refine lv_istore_n (lv' := [(2, .int (0 : Int32)), (0, .ref (gB E + a0)), (1, .int x1)]) C.1 C.2.1 dJ7_fill_53178_1 rfl hl (by decide) rfl (fun ls hl => ?_)
  refine lv_aload_n C.1 C.2.1 dJ7_fill_53178_2 rfl (lv_at hl 1 rfl) ?_
  refine aln C G X hk_a0 dJ7_fill_53178_3 ?_
  refine lv_istore_n (lv' := [(3, .int (nI (ln a0))), (2, .int (0 : Int32)), (0, .ref (gB E + a0)), (1, .int x1)]) C.1 C.2.1 dJ7_fill_53178_4 rfl hl (by decide) rfl (fun ls hl => ?_)
  exact w_J7_fill_53178_5 C G FU X hk_a0 (lv_sub hl [2, 3, 1, 0] rfl) h

theorem c_J7_fill_53178 (l : Launch) (E : GE) {σ : Mem} {a0 : Nat} {x1 : Int32} (hk_a0 : kd a0 = 0) {r : Mem} (h : J7_fill_53178 a0 x1 σ = some r) : CtV l E yJ7_fill_53178 cJ7_fill_53178 4 1 [.ref (gB E + a0), .int x1] σ r := by
  refine Met.ofW (cc := cJ7_fill_53178) (maxL := 4) (ret := none) (by decide) rfl ?_
  intro p e s m args below meth c s₁ B hml hv
  obtain ⟨rfl, G, X⟩ := start hv
  have C := cxof B hml
  have hl := lv_entry [.ref (gB E + a0), .int x1] (n := 4) (Nat.le_of_ble_eq_true rfl)
  rw [lg_entry_eq]
  generalize (lg_sl [.ref (gB E + a0), .int x1] ++ List.replicate (4 - (lg_sl [.ref (gB E + a0), .int x1]).length) Slot.unset).toArray = ls at hl ⊢
  exact w_J7_fill_53178 C G X hk_a0 hl h

set_option maxRecDepth 20000 in
theorem w_X6_fill {r : Mem} {σ : Mem} {a0 : Nat} {x1 : Int32} {ls : Array Slot} {H : Heap} {locs : List Loc} (C : Cx p s m args meth c cX6_fill none 2 RX6) (G : Gf E s) (X : Hx E σ s H locs) (hk_a0 : kd a0 = 1) (hl : lv_has ls 2 [(0, .ref (gB E + a0)), (1, .int x1)]) (h : X6_fill a0 x1 σ = some r) : W p l e (RM 2) s m args below meth c H locs 0 0 (QV E below args s r) (F0 m 0 ls []) := by
  rw [X6_fill] at h
  refine lv_aload_n C.1 C.2.1 dX6_fill_0 rfl (lv_at hl 0 rfl) ?_
  refine gfX6 C G X (k := a0) hk_a0 0 (v := .ref (gB E + (a0 + 1))) rfl rfl (by decide) k_157 rfl dX6_fill_1 ?_
  refine lv_iload_n C.1 C.2.1 dX6_fill_4 rfl (lv_at hl 1 rfl) ?_
  obtain ⟨σ5, e5, h⟩ := bnd h
  refine afV X (runS C G X q_J7_fill_53178 k_1479 k_1478 (c_J7_fill_53178 l E (kf_1_1 hk_a0) e5) rfl hl.1 rfl (Nat.le_of_ble_eq_true rfl) ⟨Nat.le_of_ble_eq_true rfl, Nat.le_of_ble_eq_true rfl⟩ ⟨Nat.le_of_ble_eq_true rfl, Nat.le_of_ble_eq_true rfl⟩ dX6_fill_5) (fun H locs X => ?_)
  rw [← Option.some.inj h]
  exact rtV C X dX6_fill_8

theorem c_X6_fill (l : Launch) (E : GE) {σ : Mem} {a0 : Nat} {x1 : Int32} (hk_a0 : kd a0 = 1) {r : Mem} (h : X6_fill a0 x1 σ = some r) : CtV l E yX6_fill cX6_fill 2 2 [.ref (gB E + a0), .int x1] σ r := by
  refine Met.ofW (cc := cX6_fill) (maxL := 2) (ret := none) (by decide) rfl ?_
  intro p e s m args below meth c s₁ B hml hv
  obtain ⟨rfl, G, X⟩ := start hv
  have C := cxof B hml
  have hl := lv_entry [.ref (gB E + a0), .int x1] (n := 2) (Nat.le_of_ble_eq_true rfl)
  rw [lg_entry_eq]
  generalize (lg_sl [.ref (gB E + a0), .int x1] ++ List.replicate (2 - (lg_sl [.ref (gB E + a0), .int x1]).length) Slot.unset).toArray = ls at hl ⊢
  exact w_X6_fill C G X hk_a0 hl h

set_option maxRecDepth 20000 in
theorem w_X5_placesAfterWalk_77 {r : (Int32 × Mem)} (C : Cx p s m args meth c cX5_placesAfterWalk (some .int) 7 RX5) (G : Gf E s) : ∀ (f : Nat) {a1 : Nat} {x4 : Int32} {x5 : Int32} {σ : Mem} {ls : Array Slot} {H : Heap} {locs : List Loc}, Hx E σ s H locs → kd a1 = 2 → lv_has ls 7 [(0, .ref (gB E + 387)), (1, .ref (gB E + a1)), (4, .int x4), (5, .int x5)] → X5_placesAfterWalk_77 f a1 x4 x5 σ = some r → W p l e (RM 3) s m args below meth c H locs 0 0 (QI E below args s r.1 r.2) (F0 m 77 ls []) := by
  intro f
  induction f with
  | zero =>
    intro a1 x4 x5 σ ls H locs X hk_a1 hl h
    rw [X5_placesAfterWalk_77] at h
    cases h
  | succ f ih =>
    intro a1 x4 x5 σ ls H locs X hk_a1 hl h
    rw [X5_placesAfterWalk_77] at h
    refine lv_iload C.1 C.2.1 dX5_placesAfterWalk_77 (lv_at hl 3 rfl) ?_
    refine lv_if_le (tgt := 113) C.1 C.2.1 dX5_placesAfterWalk_79 (by decide) (fun c79 => ?_) (fun c79 => ?_)
    · replace h := ipos c79 h
      refine lv_iload C.1 C.2.1 dX5_placesAfterWalk_113 (lv_at hl 2 rfl) ?_
      refine lv_aload_n C.1 C.2.1 dX5_placesAfterWalk_115 rfl (lv_at hl 0 rfl) ?_
      refine gfX5 C G X (k := 387) kd_387 2 (v := .ref (gB E + 392)) rfl rfl (by decide) k_382 rfl dX5_placesAfterWalk_116 ?_
      refine lv_iconst (v := 0) C.1 C.2.1 dX5_placesAfterWalk_119 (by decide) ?_
      obtain ⟨r120, e120, h⟩ := bnd h
      refine afI X (runV C G X q_X6_get k_498 k_499 k_1433 (rcX6 G X kd_392) (c_X6_get l E kd_392 e120) rfl hl.1 rfl (Nat.le_of_ble_eq_true rfl) ⟨Nat.le_of_ble_eq_true rfl, Nat.le_of_ble_eq_true rfl⟩ ⟨Nat.le_of_ble_eq_true rfl, Nat.le_of_ble_eq_true rfl⟩ dX5_placesAfterWalk_120) (fun H locs X => ?_)
      refine lv_iand C.1 C.2.1 dX5_placesAfterWalk_123 ?_
      rw [← Option.some.inj h]
      exact rtI C X dX5_placesAfterWalk_124
    · replace h := ineg c79 h
      refine lv_iload C.1 C.2.1 dX5_placesAfterWalk_82 (lv_at hl 2 rfl) ?_
      refine lv_aload_n C.1 C.2.1 dX5_placesAfterWalk_84 rfl (lv_at hl 0 rfl) ?_
      refine gfX5 C G X (k := 387) kd_387 2 (v := .ref (gB E + 392)) rfl rfl (by decide) k_382 rfl dX5_placesAfterWalk_85 ?_
      refine lv_iload C.1 C.2.1 dX5_placesAfterWalk_88 (lv_at hl 3 rfl) ?_
      obtain ⟨r90, e90, h⟩ := bnd h
      refine afI X (runV C G X q_X6_get k_498 k_499 k_1433 (rcX6 G X kd_392) (c_X6_get l E kd_392 e90) rfl hl.1 rfl (Nat.le_of_ble_eq_true rfl) ⟨Nat.le_of_ble_eq_true rfl, Nat.le_of_ble_eq_true rfl⟩ ⟨Nat.le_of_ble_eq_true rfl, Nat.le_of_ble_eq_true rfl⟩ dX5_placesAfterWalk_90) (fun H locs X => ?_)
      refine lv_iand C.1 C.2.1 dX5_placesAfterWalk_93 ?_
      refine lv_istore (lv' := [(4, .int (x4 &&& r90)), (0, .ref (gB E + 387)), (1, .ref (gB E + a1)), (5, .int x5)]) C.1 C.2.1 dX5_placesAfterWalk_94 hl (by decide) rfl (fun ls hl => ?_)
      refine lv_iload C.1 C.2.1 dX5_placesAfterWalk_96 (lv_at hl 0 rfl) ?_
      refine lv_aload_n C.1 C.2.1 dX5_placesAfterWalk_98 rfl (lv_at hl 2 rfl) ?_
      refine lv_iload C.1 C.2.1 dX5_placesAfterWalk_99 (lv_at hl 0 rfl) ?_
      obtain ⟨r101, e101, h⟩ := bnd h
      refine afI X (runV C G X q_X7_around k_512 k_513 k_645 (rcX7 G X hk_a1) (c_X7_around l E hk_a1 e101) rfl hl.1 rfl (Nat.le_of_ble_eq_true rfl) ⟨Nat.le_of_ble_eq_true rfl, Nat.le_of_ble_eq_true rfl⟩ ⟨Nat.le_of_ble_eq_true rfl, Nat.le_of_ble_eq_true rfl⟩ dX5_placesAfterWalk_101) (fun H locs X => ?_)
      refine lv_ior C.1 C.2.1 dX5_placesAfterWalk_104 ?_
      refine lv_istore (lv' := [(4, .int ((x4 &&& r90) ||| r101)), (0, .ref (gB E + 387)), (1, .ref (gB E + a1)), (5, .int x5)]) C.1 C.2.1 dX5_placesAfterWalk_105 hl (by decide) rfl (fun ls hl => ?_)
      refine lv_iinc (v := (x5 + (-1))) (lv' := [(5, .int (x5 + (-1))), (4, .int ((x4 &&& r90) ||| r101)), (0, .ref (gB E + 387)), (1, .ref (gB E + a1))]) C.1 C.2.1 dX5_placesAfterWalk_107 hl (k := 3) rfl rfl (by decide) rfl (fun ls hl => ?_)
      refine lv_goto (tgt := 77) C.1 C.2.1 dX5_placesAfterWalk_110 (by decide) ?_
      exact ih X hk_a1 (lv_sub hl [2, 3, 1, 0] rfl) h

set_option maxRecDepth 20000 in
theorem w_X5_placesAfterWalk_23 {r : (Int32 × Mem)} (C : Cx p s m args meth c cX5_placesAfterWalk (some .int) 7 RX5) (G : Gf E s) : ∀ (f : Nat) {a1 : Nat} {x3 : Int32} {x4 : Int32} {x5 : Int32} {σ : Mem} {ls : Array Slot} {H : Heap} {locs : List Loc}, Hx E σ s H locs → kd a1 = 2 → lv_has ls 7 [(0, .ref (gB E + 387)), (1, .ref (gB E + a1)), (2, .ref (gB E + 1)), (3, .int x3), (4, .int x4), (5, .int x5)] → X5_placesAfterWalk_23 f a1 x3 x4 x5 σ = some r → W p l e (RM 3) s m args below meth c H locs 0 0 (QI E below args s r.1 r.2) (F0 m 23 ls []) := by
  intro f
  induction f with
  | zero =>
    intro a1 x3 x4 x5 σ ls H locs X hk_a1 hl h
    rw [X5_placesAfterWalk_23] at h
    cases h
  | succ f ih =>
    intro a1 x3 x4 x5 σ ls H locs X hk_a1 hl h
    rw [X5_placesAfterWalk_23] at h
    refine lv_iload C.1 C.2.1 dX5_placesAfterWalk_23 (lv_at hl 5 rfl) ?_
    refine lv_iload_n C.1 C.2.1 dX5_placesAfterWalk_25 rfl (lv_at hl 3 rfl) ?_
    refine lv_icmp_ge (tgt := 73) C.1 C.2.1 dX5_placesAfterWalk_26 (by decide) (fun c26 => ?_) (fun c26 => ?_)
    · replace h := ipos c26 h
      refine lv_bipush (v := 20) C.1 C.2.1 dX5_placesAfterWalk_73 (by decide) ?_
      refine lv_istore (lv' := [(5, .int (20 : Int32)), (0, .ref (gB E + 387)), (1, .ref (gB E + a1)), (2, .ref (gB E + 1)), (3, .int x3), (4, .int x4)]) C.1 C.2.1 dX5_placesAfterWalk_75 hl (by decide) rfl (fun ls hl => ?_)
      exact w_X5_placesAfterWalk_77 C G FU X hk_a1 (lv_sub hl [1, 2, 5, 0] rfl) h
    · replace h := ineg c26 h
      refine lv_aload_n C.1 C.2.1 dX5_placesAfterWalk_29 rfl (lv_at hl 2 rfl) ?_
      refine lv_iload C.1 C.2.1 dX5_placesAfterWalk_30 (lv_at hl 5 rfl) ?_
      refine lv_iconst (v := 1) C.1 C.2.1 dX5_placesAfterWalk_32 (by decide) ?_
      refine lv_iadd C.1 C.2.1 dX5_placesAfterWalk_33 ?_
      obtain ⟨r34, e34, h⟩ := bnd h
      refine afI X (runV C G X q_X10_byteAt k_1411 k_1412 k_1410 (rcX10 G X kd_1) (c_X10_byteAt l E e34) rfl hl.1 rfl (Nat.le_of_ble_eq_true rfl) ⟨Nat.le_of_ble_eq_true rfl, Nat.le_of_ble_eq_true rfl⟩ ⟨Nat.le_of_ble_eq_true rfl, Nat.le_of_ble_eq_true rfl⟩ dX5_placesAfterWalk_34) (fun H locs X => ?_)
      refine lv_istore (lv' := [(6, .int r34), (0, .ref (gB E + 387)), (1, .ref (gB E + a1)), (2, .ref (gB E + 1)), (3, .int x3), (4, .int x4), (5, .int x5)]) C.1 C.2.1 dX5_placesAfterWalk_37 hl (by decide) rfl (fun ls hl => ?_)
      refine lv_aload_n C.1 C.2.1 dX5_placesAfterWalk_39 rfl (lv_at hl 1 rfl) ?_
      refine gfX5 C G X (k := 387) kd_387 2 (v := .ref (gB E + 392)) rfl rfl (by decide) k_382 rfl dX5_placesAfterWalk_40 ?_
      refine lv_iload C.1 C.2.1 dX5_placesAfterWalk_43 (lv_at hl 0 rfl) ?_
      refine lv_aload_n C.1 C.2.1 dX5_placesAfterWalk_45 rfl (lv_at hl 1 rfl) ?_
      refine gfX5 C G X (k := 387) kd_387 2 (v := .ref (gB E + 392)) rfl rfl (by decide) k_382 rfl dX5_placesAfterWalk_46 ?_
      refine lv_iload C.1 C.2.1 dX5_placesAfterWalk_49 (lv_at hl 0 rfl) ?_
      obtain ⟨r51, e51, h⟩ := bnd h
      refine afI X (runV C G X q_X6_get k_498 k_499 k_1433 (rcX6 G X kd_392) (c_X6_get l E kd_392 e51) rfl hl.1 rfl (Nat.le_of_ble_eq_true rfl) ⟨Nat.le_of_ble_eq_true rfl, Nat.le_of_ble_eq_true rfl⟩ ⟨Nat.le_of_ble_eq_true rfl, Nat.le_of_ble_eq_true rfl⟩ dX5_placesAfterWalk_51) (fun H locs X => ?_)
      refine lv_aload_n C.1 C.2.1 dX5_placesAfterWalk_54 rfl (lv_at hl 3 rfl) ?_
      refine lv_iload C.1 C.2.1 dX5_placesAfterWalk_55 (lv_at hl 6 rfl) ?_
      obtain ⟨r57, e57, h⟩ := bnd h
      refine afI X (runV C G X q_X10_byteAt k_1411 k_1412 k_1410 (rcX10 G X kd_1) (c_X10_byteAt l E e57) rfl hl.1 rfl (Nat.le_of_ble_eq_true rfl) ⟨Nat.le_of_ble_eq_true rfl, Nat.le_of_ble_eq_true rfl⟩ ⟨Nat.le_of_ble_eq_true rfl, Nat.le_of_ble_eq_true rfl⟩ dX5_placesAfterWalk_57) (fun H locs X => ?_)
      obtain ⟨r60, e60, h⟩ := bnd h
      refine afI X (runN C G X q_X11_bit k_506 nw_12 (c_X11_bit l E e60) rfl hl.1 rfl (Nat.le_of_ble_eq_true rfl) ⟨Nat.le_of_ble_eq_true rfl, Nat.le_of_ble_eq_true rfl⟩ ⟨Nat.le_of_ble_eq_true rfl, Nat.le_of_ble_eq_true rfl⟩ dX5_placesAfterWalk_60) (fun H locs X => ?_)
      refine lv_iand C.1 C.2.1 dX5_placesAfterWalk_63 ?_
      obtain ⟨σ64, e64, h⟩ := bnd h
      refine afV X (runV C G X q_X6_set k_451 k_452 k_1424 (rcX6 G X kd_392) (c_X6_set l E kd_392 e64) rfl hl.1 rfl (Nat.le_of_ble_eq_true rfl) ⟨Nat.le_of_ble_eq_true rfl, Nat.le_of_ble_eq_true rfl⟩ ⟨Nat.le_of_ble_eq_true rfl, Nat.le_of_ble_eq_true rfl⟩ dX5_placesAfterWalk_64) (fun H locs X => ?_)
      refine lv_iinc (v := (x5 + 2)) (lv' := [(5, .int (x5 + 2)), (6, .int r34), (0, .ref (gB E + 387)), (1, .ref (gB E + a1)), (2, .ref (gB E + 1)), (3, .int x3), (4, .int x4)]) C.1 C.2.1 dX5_placesAfterWalk_67 hl (k := 6) rfl rfl (by decide) rfl (fun ls hl => ?_)
      refine lv_goto (tgt := 23) C.1 C.2.1 dX5_placesAfterWalk_70 (by decide) ?_
      exact ih X hk_a1 (lv_sub hl [2, 3, 4, 5, 6, 0] rfl) h

set_option maxRecDepth 20000 in
theorem w_X5_placesAfterWalk {r : (Int32 × Mem)} {σ : Mem} {a1 : Nat} {x3 : Int32} {ls : Array Slot} {H : Heap} {locs : List Loc} (C : Cx p s m args meth c cX5_placesAfterWalk (some .int) 7 RX5) (G : Gf E s) (X : Hx E σ s H locs) (hk_a1 : kd a1 = 2) (hl : lv_has ls 7 [(0, .ref (gB E + 387)), (1, .ref (gB E + a1)), (2, .ref (gB E + 1)), (3, .int x3)]) (h : X5_placesAfterWalk a1 x3 σ = some r) : W p l e (RM 3) s m args below meth c H locs 0 0 (QI E below args s r.1 r.2) (F0 m 0 ls []) := by
  rw [X5_placesAfterWalk] at h
  refine lv_aload_n C.1 C.2.1 dX5_placesAfterWalk_0 rfl (lv_at hl 1 rfl) ?_
  refine gfX7 C G X (k := a1) hk_a1 0 (v := .int (σ a1 0)) rfl rfl (by decide) k_199 rfl dX5_placesAfterWalk_1 ?_
  obtain ⟨r4, e4, h⟩ := bnd h
  refine afI X (runN C G X q_X11_bit k_506 nw_12 (c_X11_bit l E e4) rfl hl.1 rfl (Nat.le_of_ble_eq_true rfl) ⟨Nat.le_of_ble_eq_true rfl, Nat.le_of_ble_eq_true rfl⟩ ⟨Nat.le_of_ble_eq_true rfl, Nat.le_of_ble_eq_true rfl⟩ dX5_placesAfterWalk_4) (fun H locs X => ?_)
  refine lv_iconst (v := 1) C.1 C.2.1 dX5_placesAfterWalk_7 (by decide) ?_
  refine lv_isub C.1 C.2.1 dX5_placesAfterWalk_8 ?_
  refine lv_istore (lv' := [(4, .int (r4 - (1 : Int32))), (0, .ref (gB E + 387)), (1, .ref (gB E + a1)), (2, .ref (gB E + 1)), (3, .int x3)]) C.1 C.2.1 dX5_placesAfterWalk_9 hl (by decide) rfl (fun ls hl => ?_)
  refine lv_aload_n C.1 C.2.1 dX5_placesAfterWalk_11 rfl (lv_at hl 1 rfl) ?_
  refine gfX5 C G X (k := 387) kd_387 2 (v := .ref (gB E + 392)) rfl rfl (by decide) k_382 rfl dX5_placesAfterWalk_12 ?_
  refine lv_iload C.1 C.2.1 dX5_placesAfterWalk_15 (lv_at hl 0 rfl) ?_
  obtain ⟨σ17, e17, h⟩ := bnd h
  refine afV X (runV C G X q_X6_fill k_1475 k_1476 k_1474 (rcX6 G X kd_392) (c_X6_fill l E kd_392 e17) rfl hl.1 rfl (Nat.le_of_ble_eq_true rfl) ⟨Nat.le_of_ble_eq_true rfl, Nat.le_of_ble_eq_true rfl⟩ ⟨Nat.le_of_ble_eq_true rfl, Nat.le_of_ble_eq_true rfl⟩ dX5_placesAfterWalk_17) (fun H locs X => ?_)
  refine lv_iconst (v := 0) C.1 C.2.1 dX5_placesAfterWalk_20 (by decide) ?_
  refine lv_istore (lv' := [(5, .int (0 : Int32)), (4, .int (r4 - (1 : Int32))), (0, .ref (gB E + 387)), (1, .ref (gB E + a1)), (2, .ref (gB E + 1)), (3, .int x3)]) C.1 C.2.1 dX5_placesAfterWalk_21 hl (by decide) rfl (fun ls hl => ?_)
  exact w_X5_placesAfterWalk_23 C G FU X hk_a1 (lv_sub hl [2, 3, 4, 5, 1, 0] rfl) h

theorem c_X5_placesAfterWalk (l : Launch) (E : GE) {σ : Mem} {a1 : Nat} {x3 : Int32} (hk_a1 : kd a1 = 2) {r : (Int32 × Mem)} (h : X5_placesAfterWalk a1 x3 σ = some r) : CtI l E yX5_placesAfterWalk cX5_placesAfterWalk 7 .int 3 [.ref (gB E + 387), .ref (gB E + a1), .ref (gB E + 1), .int x3] σ r.1 r.2 := by
  refine Met.ofW (cc := cX5_placesAfterWalk) (maxL := 7) (ret := (some .int)) (by decide) rfl ?_
  intro p e s m args below meth c s₁ B hml hv
  obtain ⟨rfl, G, X⟩ := start hv
  have C := cxof B hml
  have hl := lv_entry [.ref (gB E + 387), .ref (gB E + a1), .ref (gB E + 1), .int x3] (n := 7) (Nat.le_of_ble_eq_true rfl)
  rw [lg_entry_eq]
  generalize (lg_sl [.ref (gB E + 387), .ref (gB E + a1), .ref (gB E + 1), .int x3] ++ List.replicate (7 - (lg_sl [.ref (gB E + 387), .ref (gB E + a1), .ref (gB E + 1), .int x3]).length) Slot.unset).toArray = ls at hl ⊢
  exact w_X5_placesAfterWalk C G X hk_a1 hl h

set_option maxRecDepth 20000 in
theorem w_X11_placesTold {r : ((Int32 ⊕ Nat) × Mem)} {σ : Mem} {ls : Array Slot} {H : Heap} {locs : List Loc} (C : Cx p s m args meth c cX11_placesTold (some .int) 2 RX11) (G : Gf E s) (T0 : ∀ x ∈ c.exceptionTable.toList, False) (hT : l.stackTraces = false) (X : Hx E σ s H locs) (hl : lv_has ls 2 [(0, .ref (gB E + 0))]) (h : X11_placesTold σ = some r) : W p l e (RX 12 1) s m args below meth c H locs 0 0 (QX E below args s 1 r.1 r.2) (F0 m 0 ls []) := by
  rw [X11_placesTold] at h
  refine lv_aload_n C.1 C.2.1 dX11_placesTold_0 rfl (lv_at hl 0 rfl) ?_
  refine gfX11 C G X (k := 0) kd_0 0 (v := .ref (gB E + 1)) rfl rfl (by decide) k_405 rfl dX11_placesTold_1 ?_
  obtain ⟨r4, σ4, e4, h⟩ := bnd2 h
  refine afI (r0 := r4) (σ' := σ4) X (runV C G X q_X10_useUp k_808 k_809 k_1405 (rcX10 G X kd_1) (c_X10_useUp l E e4) rfl hl.1 rfl (Nat.le_of_ble_eq_true rfl) ⟨Nat.le_of_ble_eq_true rfl, Nat.le_of_ble_eq_true rfl⟩ ⟨Nat.le_of_ble_eq_true rfl, Nat.le_of_ble_eq_true rfl⟩ dX11_placesTold_4) (fun H locs X => ?_)
  refine lv_istore_n (lv' := [(1, .int r4), (0, .ref (gB E + 0))]) C.1 C.2.1 dX11_placesTold_7 rfl hl (by decide) rfl (fun ls hl => ?_)
  refine lv_aload_n C.1 C.2.1 dX11_placesTold_8 rfl (lv_at hl 1 rfl) ?_
  refine gfX11 C G X (k := 0) kd_0 10 (v := .ref (gB E + 387)) rfl rfl (by decide) k_415 rfl dX11_placesTold_9 ?_
  refine lv_aload_n C.1 C.2.1 dX11_placesTold_12 rfl (lv_at hl 1 rfl) ?_
  refine gfX11 C G X (k := 0) kd_0 1 (v := .ref (gB E + 9)) rfl rfl (by decide) k_406 rfl dX11_placesTold_13 ?_
  refine lv_aload_n C.1 C.2.1 dX11_placesTold_16 rfl (lv_at hl 1 rfl) ?_
  refine gfX11 C G X (k := 0) kd_0 0 (v := .ref (gB E + 1)) rfl rfl (by decide) k_405 rfl dX11_placesTold_17 ?_
  refine lv_iload_n C.1 C.2.1 dX11_placesTold_20 rfl (lv_at hl 0 rfl) ?_
  obtain ⟨r21, e21, h⟩ := bnd h
  refine afI X (runV C G X q_X5_isWalk k_1466 k_1467 k_1465 (rcX5 G X kd_387) (c_X5_isWalk l E kd_9 e21) rfl hl.1 rfl (Nat.le_of_ble_eq_true rfl) ⟨Nat.le_of_ble_eq_true rfl, Nat.le_of_ble_eq_true rfl⟩ ⟨Nat.le_of_ble_eq_true rfl, Nat.le_of_ble_eq_true rfl⟩ dX11_placesTold_21) (fun H locs X => ?_)
  refine lv_if_ne (tgt := 38) C.1 C.2.1 dX11_placesTold_24 (by decide) (fun c24 => ?_) (fun c24 => ?_)
  · replace h := ineg c24 h
    refine lv_aload_n C.1 C.2.1 dX11_placesTold_38 rfl (lv_at hl 1 rfl) ?_
    refine gfX11 C G X (k := 0) kd_0 10 (v := .ref (gB E + 387)) rfl rfl (by decide) k_415 rfl dX11_placesTold_39 ?_
    refine lv_aload_n C.1 C.2.1 dX11_placesTold_42 rfl (lv_at hl 1 rfl) ?_
    refine gfX11 C G X (k := 0) kd_0 1 (v := .ref (gB E + 9)) rfl rfl (by decide) k_406 rfl dX11_placesTold_43 ?_
    refine lv_aload_n C.1 C.2.1 dX11_placesTold_46 rfl (lv_at hl 1 rfl) ?_
    refine gfX11 C G X (k := 0) kd_0 0 (v := .ref (gB E + 1)) rfl rfl (by decide) k_405 rfl dX11_placesTold_47 ?_
    refine lv_iload_n C.1 C.2.1 dX11_placesTold_50 rfl (lv_at hl 0 rfl) ?_
    obtain ⟨r51, σ51, e51, h⟩ := bnd2 h
    refine afI (r0 := r51) (σ' := σ51) X (runV C G X q_X5_placesAfterWalk k_1471 k_1472 k_1470 (rcX5 G X kd_387) (c_X5_placesAfterWalk l E kd_9 e51) rfl hl.1 rfl (Nat.le_of_ble_eq_true rfl) ⟨Nat.le_of_ble_eq_true rfl, Nat.le_of_ble_eq_true rfl⟩ ⟨Nat.le_of_ble_eq_true rfl, Nat.le_of_ble_eq_true rfl⟩ dX11_placesTold_51) (fun H locs X => ?_)
    refine W.widen (k := 1) (n := 6) (Nat.le_of_ble_eq_true rfl) (Nat.le_of_ble_eq_true rfl) ?_
    rw [← Option.some.inj h]
    exact vx_ret (rtxI C X dX11_placesTold_54)
  · replace h := ipos c24 h
    rw [← Option.some.inj h]
    exact thSW C G X T0 hT (x := 2) (cls := "java/lang/IllegalArgumentException") (text := "these are not panes and hours ago") (ik := 91) (is := 435) (ic := 95) rfl k_985 k_126 (by decide +kernel) (by decide +kernel) hl.1 dX11_placesTold_27 dX11_placesTold_30 dX11_placesTold_31 dX11_placesTold_34 dX11_placesTold_37 (Nat.le_of_ble_eq_true rfl) (Nat.le_of_ble_eq_true rfl) (Nat.le_of_ble_eq_true rfl) (Nat.le_of_ble_eq_true rfl)

theorem c_X11_placesTold (l : Launch) (E : GE) (hT : l.stackTraces = false) {σ : Mem} {r : ((Int32 ⊕ Nat) × Mem)} (h : X11_placesTold σ = some r) : CtX l E yX11_placesTold cX11_placesTold 2 .int 12 1 [.ref (gB E + 0)] σ r.1 r.2 := by
  refine vx_ofW (cc := cX11_placesTold) (maxL := 2) (ret := (some .int)) (by decide) rfl ?_
  intro p e s m args below meth c s₁ B hml T0 hv
  obtain ⟨rfl, G, X⟩ := start hv
  have C := cxof B hml
  have hl := lv_entry [.ref (gB E + 0)] (n := 2) (Nat.le_of_ble_eq_true rfl)
  rw [lg_entry_eq]
  generalize (lg_sl [.ref (gB E + 0)] ++ List.replicate (2 - (lg_sl [.ref (gB E + 0)]).length) Slot.unset).toArray = ls at hl ⊢
  exact w_X11_placesTold C G T0 hT X hl h

set_option maxRecDepth 20000 in
theorem w_X11_whoLit {r : ((Int32 ⊕ Nat) × Mem)} {σ : Mem} {ls : Array Slot} {H : Heap} {locs : List Loc} (C : Cx p s m args meth c cX11_whoLit (some .int) 1 RX11) (G : Gf E s) (T0 : ∀ x ∈ c.exceptionTable.toList, False) (hT : l.stackTraces = false) (X : Hx E σ s H locs) (hl : lv_has ls 1 [(0, .ref (gB E + 0))]) (h : X11_whoLit σ = some r) : W p l e (RX 13 1) s m args below meth c H locs 0 0 (QX E below args s 1 r.1 r.2) (F0 m 0 ls []) := by
  rw [X11_whoLit] at h
  refine lv_aload_n C.1 C.2.1 dX11_whoLit_0 rfl (lv_at hl 0 rfl) ?_
  rcases bndx2 h with ⟨r1, σ1, e1, h⟩ | ⟨x1_, σ1, e1, h⟩
  · refine axI X (runXV C G X q_X11_placesTold k_1463 kp_20 k_1461 (rcX11 G X kd_0) (c_X11_placesTold l E hT e1) rfl hl.1 rfl (Nat.le_of_ble_eq_true rfl) ⟨Nat.le_of_ble_eq_true rfl, Nat.le_of_ble_eq_true rfl⟩ ⟨Nat.le_of_ble_eq_true rfl, Nat.le_of_ble_eq_true rfl⟩ dX11_whoLit_1) (fun r9 H locs er X => ?_) (fun x9 H locs q9 ce er X hz hv hcl => nomatch er)
    rw [← Sum.inl.inj er]
    rw [← Option.some.inj h]
    exact vx_ret (rtxI C X dX11_whoLit_4)
  · refine axI X (runXV C G X q_X11_placesTold k_1463 kp_20 k_1461 (rcX11 G X kd_0) (c_X11_placesTold l E hT e1) rfl hl.1 rfl (Nat.le_of_ble_eq_true rfl) ⟨Nat.le_of_ble_eq_true rfl, Nat.le_of_ble_eq_true rfl⟩ ⟨Nat.le_of_ble_eq_true rfl, Nat.le_of_ble_eq_true rfl⟩ dX11_whoLit_1) (fun r9 H locs er X => nomatch er) (fun x9 H locs q9 ce er X hz hv hcl => ?_)
    rw [← Sum.inr.inj er] at hcl
    rw [← Option.some.inj h]
    exact xout C X T0 hz hv hcl (Nat.le_of_ble_eq_true rfl) (Nat.le_of_ble_eq_true rfl)

theorem c_X11_whoLit (l : Launch) (E : GE) (hT : l.stackTraces = false) {σ : Mem} {r : ((Int32 ⊕ Nat) × Mem)} (h : X11_whoLit σ = some r) : CtX l E yX11_whoLit cX11_whoLit 1 .int 13 1 [.ref (gB E + 0)] σ r.1 r.2 := by
  refine vx_ofW (cc := cX11_whoLit) (maxL := 1) (ret := (some .int)) (by decide) rfl ?_
  intro p e s m args below meth c s₁ B hml T0 hv
  obtain ⟨rfl, G, X⟩ := start hv
  have C := cxof B hml
  have hl := lv_entry [.ref (gB E + 0)] (n := 1) (Nat.le_of_ble_eq_true rfl)
  rw [lg_entry_eq]
  generalize (lg_sl [.ref (gB E + 0)] ++ List.replicate (1 - (lg_sl [.ref (gB E + 0)]).length) Slot.unset).toArray = ls at hl ⊢
  exact w_X11_whoLit C G T0 hT X hl h

set_option maxRecDepth 20000 in
theorem w_X5_greatestPart_14 {r : (Int32 × Mem)} (C : Cx p s m args meth c cX5_greatestPart (some .int) 7 RX5) (G : Gf E s) : ∀ (f : Nat) {a1 : Nat} {x2 : Int32} {x3 : Int32} {x4 : Int32} {x5 : Int32} {σ : Mem} {ls : Array Slot} {H : Heap} {locs : List Loc}, Hx E σ s H locs → kd a1 = 2 → lv_has ls 7 [(0, .ref (gB E + 387)), (1, .ref (gB E + a1)), (2, .int x2), (3, .int x3), (4, .int x4), (5, .int x5)] → X5_greatestPart_14 f a1 x2 x3 x4 x5 σ = some r → W p l e (RM 4) s m args below meth c H locs 0 0 (QI E below args s r.1 r.2) (F0 m 14 ls []) := by
  intro f
  induction f with
  | zero =>
    intro a1 x2 x3 x4 x5 σ ls H locs X hk_a1 hl h
    rw [X5_greatestPart_14] at h
    cases h
  | succ f ih =>
    intro a1 x2 x3 x4 x5 σ ls H locs X hk_a1 hl h
    rw [X5_greatestPart_14] at h
    refine lv_iload C.1 C.2.1 dX5_greatestPart_14 (lv_at hl 5 rfl) ?_
    refine lv_aload_n C.1 C.2.1 dX5_greatestPart_16 rfl (lv_at hl 1 rfl) ?_
    refine gfX7 C G X (k := a1) hk_a1 0 (v := .int (σ a1 0)) rfl rfl (by decide) k_199 rfl dX5_greatestPart_17 ?_
    refine lv_icmp_ge (tgt := 75) C.1 C.2.1 dX5_greatestPart_20 (by decide) (fun c20 => ?_) (fun c20 => ?_)
    · replace h := ipos c20 h
      refine lv_iload C.1 C.2.1 dX5_greatestPart_75 (lv_at hl 4 rfl) ?_
      rw [← Option.some.inj h]
      exact rtI C X dX5_greatestPart_77
    · replace h := ineg c20 h
      refine lv_iload_n C.1 C.2.1 dX5_greatestPart_23 rfl (lv_at hl 2 rfl) ?_
      refine lv_iload C.1 C.2.1 dX5_greatestPart_24 (lv_at hl 5 rfl) ?_
      obtain ⟨r26, e26, h⟩ := bnd h
      refine afI X (runN C G X q_X11_hasBit k_509 nw_13 (c_X11_hasBit l E e26) rfl hl.1 rfl (Nat.le_of_ble_eq_true rfl) ⟨Nat.le_of_ble_eq_true rfl, Nat.le_of_ble_eq_true rfl⟩ ⟨Nat.le_of_ble_eq_true rfl, Nat.le_of_ble_eq_true rfl⟩ dX5_greatestPart_26) (fun H locs X => ?_)
      refine lv_if_eq (tgt := 69) C.1 C.2.1 dX5_greatestPart_29 (by decide) (fun c29 => ?_) (fun c29 => ?_)
      · replace h := ipos c29 h
        refine lv_iinc (v := (x5 + 1)) (lv' := [(5, .int (x5 + 1)), (0, .ref (gB E + 387)), (1, .ref (gB E + a1)), (2, .int x2), (3, .int x3), (4, .int x4)]) C.1 C.2.1 dX5_greatestPart_69 hl (k := 5) rfl rfl (by decide) rfl (fun ls hl => ?_)
        refine lv_goto (tgt := 14) C.1 C.2.1 dX5_greatestPart_72 (by decide) ?_
        exact ih X hk_a1 (lv_sub hl [1, 2, 3, 4, 5, 0] rfl) h
      · replace h := ineg c29 h
        refine lv_aload_n C.1 C.2.1 dX5_greatestPart_32 rfl (lv_at hl 1 rfl) ?_
        refine lv_iload_n C.1 C.2.1 dX5_greatestPart_33 rfl (lv_at hl 3 rfl) ?_
        refine lv_iload C.1 C.2.1 dX5_greatestPart_34 (lv_at hl 5 rfl) ?_
        obtain ⟨r36, e36, h⟩ := bnd h
        refine afI X (runV C G X q_X7_farOf k_1230 k_1231 k_1423 (rcX7 G X hk_a1) (c_X7_farOf l E hk_a1 e36) rfl hl.1 rfl (Nat.le_of_ble_eq_true rfl) ⟨Nat.le_of_ble_eq_true rfl, Nat.le_of_ble_eq_true rfl⟩ ⟨Nat.le_of_ble_eq_true rfl, Nat.le_of_ble_eq_true rfl⟩ dX5_greatestPart_36) (fun H locs X => ?_)
        refine lv_iconst (v := -1) C.1 C.2.1 dX5_greatestPart_39 (by decide) ?_
        refine lv_isub C.1 C.2.1 dX5_greatestPart_40 ?_
        refine lv_istore (lv' := [(6, .int (r36 - (-1 : Int32))), (0, .ref (gB E + 387)), (1, .ref (gB E + a1)), (2, .int x2), (3, .int x3), (4, .int x4), (5, .int x5)]) C.1 C.2.1 dX5_greatestPart_41 hl (by decide) rfl (fun ls hl => ?_)
        refine lv_aload_n C.1 C.2.1 dX5_greatestPart_43 rfl (lv_at hl 1 rfl) ?_
        refine gfX5 C G X (k := 387) kd_387 3 (v := .ref (gB E + 394)) rfl rfl (by decide) k_383 rfl dX5_greatestPart_44 ?_
        refine lv_iload C.1 C.2.1 dX5_greatestPart_47 (lv_at hl 0 rfl) ?_
        refine lv_iconst (v := 1) C.1 C.2.1 dX5_greatestPart_49 (by decide) ?_
        obtain ⟨σ50, e50, h⟩ := bnd h
        refine afV X (runV C G X q_X6_add k_584 k_585 k_1496 (rcX6 G X kd_394) (c_X6_add l E kd_394 e50) rfl hl.1 rfl (Nat.le_of_ble_eq_true rfl) ⟨Nat.le_of_ble_eq_true rfl, Nat.le_of_ble_eq_true rfl⟩ ⟨Nat.le_of_ble_eq_true rfl, Nat.le_of_ble_eq_true rfl⟩ dX5_greatestPart_50) (fun H locs X => ?_)
        refine lv_iload C.1 C.2.1 dX5_greatestPart_53 (lv_at hl 5 rfl) ?_
        refine lv_aload_n C.1 C.2.1 dX5_greatestPart_55 rfl (lv_at hl 1 rfl) ?_
        refine gfX5 C G X (k := 387) kd_387 3 (v := .ref (gB E + 394)) rfl rfl (by decide) k_383 rfl dX5_greatestPart_56 ?_
        refine lv_iload C.1 C.2.1 dX5_greatestPart_59 (lv_at hl 0 rfl) ?_
        obtain ⟨r61, e61, h⟩ := bnd h
        refine afI X (runV C G X q_X6_get k_498 k_499 k_1433 (rcX6 G X kd_394) (c_X6_get l E kd_394 e61) rfl hl.1 rfl (Nat.le_of_ble_eq_true rfl) ⟨Nat.le_of_ble_eq_true rfl, Nat.le_of_ble_eq_true rfl⟩ ⟨Nat.le_of_ble_eq_true rfl, Nat.le_of_ble_eq_true rfl⟩ dX5_greatestPart_61) (fun H locs X => ?_)
        refine mmax C hl.1 (cells := 0) k_1497 ⟨Nat.le_of_ble_eq_true rfl, Nat.le_of_ble_eq_true rfl, Nat.le_of_ble_eq_true rfl, Nat.le_of_ble_eq_true rfl⟩ dX5_greatestPart_64 ?_
        refine lv_istore (lv' := [(4, .int (if x4 < r61 then r61 else x4)), (6, .int (r36 - (-1 : Int32))), (0, .ref (gB E + 387)), (1, .ref (gB E + a1)), (2, .int x2), (3, .int x3), (5, .int x5)]) C.1 C.2.1 dX5_greatestPart_67 hl (by decide) rfl (fun ls hl => ?_)
        refine lv_iinc (v := (x5 + 1)) (lv' := [(5, .int (x5 + 1)), (4, .int (if x4 < r61 then r61 else x4)), (6, .int (r36 - (-1 : Int32))), (0, .ref (gB E + 387)), (1, .ref (gB E + a1)), (2, .int x2), (3, .int x3)]) C.1 C.2.1 dX5_greatestPart_69 hl (k := 6) rfl rfl (by decide) rfl (fun ls hl => ?_)
        refine lv_goto (tgt := 14) C.1 C.2.1 dX5_greatestPart_72 (by decide) ?_
        exact ih X hk_a1 (lv_sub hl [3, 4, 5, 6, 1, 0] rfl) h

set_option maxRecDepth 20000 in
theorem w_X5_greatestPart {r : (Int32 × Mem)} {σ : Mem} {a1 : Nat} {x2 : Int32} {x3 : Int32} {ls : Array Slot} {H : Heap} {locs : List Loc} (C : Cx p s m args meth c cX5_greatestPart (some .int) 7 RX5) (G : Gf E s) (X : Hx E σ s H locs) (hk_a1 : kd a1 = 2) (hl : lv_has ls 7 [(0, .ref (gB E + 387)), (1, .ref (gB E + a1)), (2, .int x2), (3, .int x3)]) (h : X5_greatestPart a1 x2 x3 σ = some r) : W p l e (RM 4) s m args below meth c H locs 0 0 (QI E below args s r.1 r.2) (F0 m 0 ls []) := by
  rw [X5_greatestPart] at h
  refine lv_iconst (v := 0) C.1 C.2.1 dX5_greatestPart_0 (by decide) ?_
  refine lv_istore (lv' := [(4, .int (0 : Int32)), (0, .ref (gB E + 387)), (1, .ref (gB E + a1)), (2, .int x2), (3, .int x3)]) C.1 C.2.1 dX5_greatestPart_1 hl (by decide) rfl (fun ls hl => ?_)
  refine lv_aload_n C.1 C.2.1 dX5_greatestPart_3 rfl (lv_at hl 1 rfl) ?_
  refine gfX5 C G X (k := 387) kd_387 3 (v := .ref (gB E + 394)) rfl rfl (by decide) k_383 rfl dX5_greatestPart_4 ?_
  refine lv_iconst (v := 0) C.1 C.2.1 dX5_greatestPart_7 (by decide) ?_
  obtain ⟨σ8, e8, h⟩ := bnd h
  refine afV X (runV C G X q_X6_fill k_1475 k_1476 k_1474 (rcX6 G X kd_394) (c_X6_fill l E kd_394 e8) rfl hl.1 rfl (Nat.le_of_ble_eq_true rfl) ⟨Nat.le_of_ble_eq_true rfl, Nat.le_of_ble_eq_true rfl⟩ ⟨Nat.le_of_ble_eq_true rfl, Nat.le_of_ble_eq_true rfl⟩ dX5_greatestPart_8) (fun H locs X => ?_)
  refine lv_iconst (v := 0) C.1 C.2.1 dX5_greatestPart_11 (by decide) ?_
  refine lv_istore (lv' := [(5, .int (0 : Int32)), (4, .int (0 : Int32)), (0, .ref (gB E + 387)), (1, .ref (gB E + a1)), (2, .int x2), (3, .int x3)]) C.1 C.2.1 dX5_greatestPart_12 hl (by decide) rfl (fun ls hl => ?_)
  exact w_X5_greatestPart_14 C G FU X hk_a1 (lv_sub hl [2, 3, 4, 5, 1, 0] rfl) h

theorem c_X5_greatestPart (l : Launch) (E : GE) {σ : Mem} {a1 : Nat} {x2 : Int32} {x3 : Int32} (hk_a1 : kd a1 = 2) {r : (Int32 × Mem)} (h : X5_greatestPart a1 x2 x3 σ = some r) : CtI l E yX5_greatestPart cX5_greatestPart 7 .int 4 [.ref (gB E + 387), .ref (gB E + a1), .int x2, .int x3] σ r.1 r.2 := by
  refine Met.ofW (cc := cX5_greatestPart) (maxL := 7) (ret := (some .int)) (by decide) rfl ?_
  intro p e s m args below meth c s₁ B hml hv
  obtain ⟨rfl, G, X⟩ := start hv
  have C := cxof B hml
  have hl := lv_entry [.ref (gB E + 387), .ref (gB E + a1), .int x2, .int x3] (n := 7) (Nat.le_of_ble_eq_true rfl)
  rw [lg_entry_eq]
  generalize (lg_sl [.ref (gB E + 387), .ref (gB E + a1), .int x2, .int x3] ++ List.replicate (7 - (lg_sl [.ref (gB E + 387), .ref (gB E + a1), .int x2, .int x3]).length) Slot.unset).toArray = ls at hl ⊢
  exact w_X5_greatestPart C G X hk_a1 hl h

set_option maxRecDepth 20000 in
theorem w_X5_paneToAsk_20 {r : (Int32 × Mem)} (C : Cx p s m args meth c cX5_paneToAsk (some .int) 7 RX5) (G : Gf E s) : ∀ (f : Nat) {a1 : Nat} {x2 : Int32} {x3 : Int32} {x4 : Int32} {x5 : Int32} {σ : Mem} {ls : Array Slot} {H : Heap} {locs : List Loc}, Hx E σ s H locs → kd a1 = 2 → lv_has ls 7 [(0, .ref (gB E + 387)), (1, .ref (gB E + a1)), (2, .int x2), (3, .int x3), (4, .int x4), (5, .int x5)] → X5_paneToAsk_20 f a1 x2 x3 x4 x5 σ = some r → W p l e (RM 5) s m args below meth c H locs 0 0 (QI E below args s r.1 r.2) (F0 m 20 ls []) := by
  intro f
  induction f with
  | zero =>
    intro a1 x2 x3 x4 x5 σ ls H locs X hk_a1 hl h
    rw [X5_paneToAsk_20] at h
    cases h
  | succ f ih =>
    intro a1 x2 x3 x4 x5 σ ls H locs X hk_a1 hl h
    rw [X5_paneToAsk_20] at h
    refine lv_iload C.1 C.2.1 dX5_paneToAsk_20 (lv_at hl 5 rfl) ?_
    refine lv_aload_n C.1 C.2.1 dX5_paneToAsk_22 rfl (lv_at hl 1 rfl) ?_
    refine gfX7 C G X (k := a1) hk_a1 0 (v := .int (σ a1 0)) rfl rfl (by decide) k_199 rfl dX5_paneToAsk_23 ?_
    refine lv_icmp_ge (tgt := 59) C.1 C.2.1 dX5_paneToAsk_26 (by decide) (fun c26 => ?_) (fun c26 => ?_)
    · replace h := ipos c26 h
      refine lv_iload_n C.1 C.2.1 dX5_paneToAsk_59 rfl (lv_at hl 3 rfl) ?_
      rw [← Option.some.inj h]
      exact rtI C X dX5_paneToAsk_60
    · replace h := ineg c26 h
      refine lv_aload_n C.1 C.2.1 dX5_paneToAsk_29 rfl (lv_at hl 0 rfl) ?_
      refine lv_aload_n C.1 C.2.1 dX5_paneToAsk_30 rfl (lv_at hl 1 rfl) ?_
      refine lv_iload_n C.1 C.2.1 dX5_paneToAsk_31 rfl (lv_at hl 2 rfl) ?_
      refine lv_iload C.1 C.2.1 dX5_paneToAsk_32 (lv_at hl 5 rfl) ?_
      obtain ⟨r34, σ34, e34, h⟩ := bnd2 h
      refine afI (r0 := r34) (σ' := σ34) X (runV C G X q_X5_greatestPart k_1494 kp_21 k_1492 (rcX5 G X kd_387) (c_X5_greatestPart l E hk_a1 e34) rfl hl.1 rfl (Nat.le_of_ble_eq_true rfl) ⟨Nat.le_of_ble_eq_true rfl, Nat.le_of_ble_eq_true rfl⟩ ⟨Nat.le_of_ble_eq_true rfl, Nat.le_of_ble_eq_true rfl⟩ dX5_paneToAsk_34) (fun H locs X => ?_)
      refine lv_istore (lv' := [(6, .int r34), (0, .ref (gB E + 387)), (1, .ref (gB E + a1)), (2, .int x2), (3, .int x3), (4, .int x4), (5, .int x5)]) C.1 C.2.1 dX5_paneToAsk_37 hl (by decide) rfl (fun ls hl => ?_)
      refine lv_iload C.1 C.2.1 dX5_paneToAsk_39 (lv_at hl 0 rfl) ?_
      refine lv_iload C.1 C.2.1 dX5_paneToAsk_41 (lv_at hl 5 rfl) ?_
      refine lv_icmp_ge (tgt := 53) C.1 C.2.1 dX5_paneToAsk_43 (by decide) (fun c43 => ?_) (fun c43 => ?_)
      · replace h := ipos c43 h
        refine lv_iinc (v := (x5 + 1)) (lv' := [(5, .int (x5 + 1)), (6, .int r34), (0, .ref (gB E + 387)), (1, .ref (gB E + a1)), (2, .int x2), (3, .int x3), (4, .int x4)]) C.1 C.2.1 dX5_paneToAsk_53 hl (k := 6) rfl rfl (by decide) rfl (fun ls hl => ?_)
        refine lv_goto (tgt := 20) C.1 C.2.1 dX5_paneToAsk_56 (by decide) ?_
        exact ih X hk_a1 (lv_sub hl [2, 3, 4, 5, 6, 0] rfl) h
      · replace h := ineg c43 h
        refine lv_iload C.1 C.2.1 dX5_paneToAsk_46 (lv_at hl 0 rfl) ?_
        refine lv_istore (lv' := [(4, .int r34), (6, .int r34), (0, .ref (gB E + 387)), (1, .ref (gB E + a1)), (2, .int x2), (3, .int x3), (5, .int x5)]) C.1 C.2.1 dX5_paneToAsk_48 hl (by decide) rfl (fun ls hl => ?_)
        refine lv_iload C.1 C.2.1 dX5_paneToAsk_50 (lv_at hl 6 rfl) ?_
        refine lv_istore_n (lv' := [(3, .int x5), (4, .int r34), (6, .int r34), (0, .ref (gB E + 387)), (1, .ref (gB E + a1)), (2, .int x2), (5, .int x5)]) C.1 C.2.1 dX5_paneToAsk_52 rfl hl (by decide) rfl (fun ls hl => ?_)
        refine lv_iinc (v := (x5 + 1)) (lv' := [(5, .int (x5 + 1)), (3, .int x5), (4, .int r34), (6, .int r34), (0, .ref (gB E + 387)), (1, .ref (gB E + a1)), (2, .int x2)]) C.1 C.2.1 dX5_paneToAsk_53 hl (k := 6) rfl rfl (by decide) rfl (fun ls hl => ?_)
        refine lv_goto (tgt := 20) C.1 C.2.1 dX5_paneToAsk_56 (by decide) ?_
        exact ih X hk_a1 (lv_sub hl [4, 5, 6, 1, 2, 0] rfl) h

set_option maxRecDepth 20000 in
theorem w_X5_paneToAsk {r : (Int32 × Mem)} {σ : Mem} {a1 : Nat} {x2 : Int32} {ls : Array Slot} {H : Heap} {locs : List Loc} (C : Cx p s m args meth c cX5_paneToAsk (some .int) 7 RX5) (G : Gf E s) (X : Hx E σ s H locs) (hk_a1 : kd a1 = 2) (hl : lv_has ls 7 [(0, .ref (gB E + 387)), (1, .ref (gB E + a1)), (2, .int x2)]) (h : X5_paneToAsk a1 x2 σ = some r) : W p l e (RM 5) s m args below meth c H locs 0 0 (QI E below args s r.1 r.2) (F0 m 0 ls []) := by
  rw [X5_paneToAsk] at h
  refine lv_iload_n C.1 C.2.1 dX5_paneToAsk_0 rfl (lv_at hl 2 rfl) ?_
  obtain ⟨r1, e1, h⟩ := bnd h
  refine afI X (runS C G X q_J6_bitCount_0f7a4 k_640 k_639 (c_J6_bitCount_0f7a4 l E e1) rfl hl.1 rfl (Nat.le_of_ble_eq_true rfl) ⟨Nat.le_of_ble_eq_true rfl, Nat.le_of_ble_eq_true rfl⟩ ⟨Nat.le_of_ble_eq_true rfl, Nat.le_of_ble_eq_true rfl⟩ dX5_paneToAsk_1) (fun H locs X => ?_)
  refine lv_iconst (v := 2) C.1 C.2.1 dX5_paneToAsk_4 (by decide) ?_
  refine lv_icmp_ge (tgt := 10) C.1 C.2.1 dX5_paneToAsk_5 (by decide) (fun c5 => ?_) (fun c5 => ?_)
  · replace h := ipos c5 h
    refine lv_iconst (v := -1) C.1 C.2.1 dX5_paneToAsk_10 (by decide) ?_
    refine lv_istore_n (lv' := [(3, .int (-1 : Int32)), (0, .ref (gB E + 387)), (1, .ref (gB E + a1)), (2, .int x2)]) C.1 C.2.1 dX5_paneToAsk_11 rfl hl (by decide) rfl (fun ls hl => ?_)
    refine lv_sipush (v := 1000) C.1 C.2.1 dX5_paneToAsk_12 (by decide) ?_
    refine lv_istore (lv' := [(4, .int (1000 : Int32)), (3, .int (-1 : Int32)), (0, .ref (gB E + 387)), (1, .ref (gB E + a1)), (2, .int x2)]) C.1 C.2.1 dX5_paneToAsk_15 hl (by decide) rfl (fun ls hl => ?_)
    refine lv_iconst (v := 0) C.1 C.2.1 dX5_paneToAsk_17 (by decide) ?_
    refine lv_istore (lv' := [(5, .int (0 : Int32)), (4, .int (1000 : Int32)), (3, .int (-1 : Int32)), (0, .ref (gB E + 387)), (1, .ref (gB E + a1)), (2, .int x2)]) C.1 C.2.1 dX5_paneToAsk_18 hl (by decide) rfl (fun ls hl => ?_)
    exact w_X5_paneToAsk_20 C G FU X hk_a1 (lv_sub hl [3, 4, 5, 2, 1, 0] rfl) h
  · replace h := ineg c5 h
    refine lv_iconst (v := -1) C.1 C.2.1 dX5_paneToAsk_8 (by decide) ?_
    rw [← Option.some.inj h]
    exact rtI C X dX5_paneToAsk_9

theorem c_X5_paneToAsk (l : Launch) (E : GE) {σ : Mem} {a1 : Nat} {x2 : Int32} (hk_a1 : kd a1 = 2) {r : (Int32 × Mem)} (h : X5_paneToAsk a1 x2 σ = some r) : CtI l E yX5_paneToAsk cX5_paneToAsk 7 .int 5 [.ref (gB E + 387), .ref (gB E + a1), .int x2] σ r.1 r.2 := by
  refine Met.ofW (cc := cX5_paneToAsk) (maxL := 7) (ret := (some .int)) (by decide) rfl ?_
  intro p e s m args below meth c s₁ B hml hv
  obtain ⟨rfl, G, X⟩ := start hv
  have C := cxof B hml
  have hl := lv_entry [.ref (gB E + 387), .ref (gB E + a1), .int x2] (n := 7) (Nat.le_of_ble_eq_true rfl)
  rw [lg_entry_eq]
  generalize (lg_sl [.ref (gB E + 387), .ref (gB E + a1), .int x2] ++ List.replicate (7 - (lg_sl [.ref (gB E + 387), .ref (gB E + a1), .int x2]).length) Slot.unset).toArray = ls at hl ⊢
  exact w_X5_paneToAsk C G X hk_a1 hl h

set_option maxRecDepth 20000 in
theorem w_X11_ask {r : ((Int32 ⊕ Nat) × Mem)} {σ : Mem} {ls : Array Slot} {H : Heap} {locs : List Loc} (C : Cx p s m args meth c cX11_ask (some .int) 1 RX11) (G : Gf E s) (T0 : ∀ x ∈ c.exceptionTable.toList, False) (hT : l.stackTraces = false) (X : Hx E σ s H locs) (hl : lv_has ls 1 [(0, .ref (gB E + 0))]) (h : X11_ask σ = some r) : W p l e (RX 13 1) s m args below meth c H locs 0 0 (QX E below args s 1 r.1 r.2) (F0 m 0 ls []) := by
  rw [X11_ask] at h
  refine lv_aload_n C.1 C.2.1 dX11_ask_0 rfl (lv_at hl 0 rfl) ?_
  refine gfX11 C G X (k := 0) kd_0 10 (v := .ref (gB E + 387)) rfl rfl (by decide) k_415 rfl dX11_ask_1 ?_
  refine lv_aload_n C.1 C.2.1 dX11_ask_4 rfl (lv_at hl 0 rfl) ?_
  refine gfX11 C G X (k := 0) kd_0 1 (v := .ref (gB E + 9)) rfl rfl (by decide) k_406 rfl dX11_ask_5 ?_
  refine lv_aload_n C.1 C.2.1 dX11_ask_8 rfl (lv_at hl 0 rfl) ?_
  rcases bndx2 h with ⟨r9, σ9, e9, h⟩ | ⟨x9_, σ9, e9, h⟩
  · refine axI X (runXV C G X q_X11_placesTold k_1463 kp_20 k_1461 (rcX11 G X kd_0) (c_X11_placesTold l E hT e9) rfl hl.1 rfl (Nat.le_of_ble_eq_true rfl) ⟨Nat.le_of_ble_eq_true rfl, Nat.le_of_ble_eq_true rfl⟩ ⟨Nat.le_of_ble_eq_true rfl, Nat.le_of_ble_eq_true rfl⟩ dX11_ask_9) (fun r9 H locs er X => ?_) (fun x9 H locs q9 ce er X hz hv hcl => nomatch er)
    rw [← Sum.inl.inj er]
    obtain ⟨r12, σ12, e12, h⟩ := bnd2 h
    refine afI (r0 := r12) (σ' := σ12) X (runV C G X q_X5_paneToAsk k_1489 k_1490 k_1488 (rcX5 G X kd_387) (c_X5_paneToAsk l E kd_9 e12) rfl hl.1 rfl (Nat.le_of_ble_eq_true rfl) ⟨Nat.le_of_ble_eq_true rfl, Nat.le_of_ble_eq_true rfl⟩ ⟨Nat.le_of_ble_eq_true rfl, Nat.le_of_ble_eq_true rfl⟩ dX11_ask_12) (fun H locs X => ?_)
    rw [← Option.some.inj h]
    exact vx_ret (rtxI C X dX11_ask_15)
  · refine axI X (runXV C G X q_X11_placesTold k_1463 kp_20 k_1461 (rcX11 G X kd_0) (c_X11_placesTold l E hT e9) rfl hl.1 rfl (Nat.le_of_ble_eq_true rfl) ⟨Nat.le_of_ble_eq_true rfl, Nat.le_of_ble_eq_true rfl⟩ ⟨Nat.le_of_ble_eq_true rfl, Nat.le_of_ble_eq_true rfl⟩ dX11_ask_9) (fun r9 H locs er X => nomatch er) (fun x9 H locs q9 ce er X hz hv hcl => ?_)
    rw [← Sum.inr.inj er] at hcl
    rw [← Option.some.inj h]
    exact xout C X T0 hz hv hcl (Nat.le_of_ble_eq_true rfl) (Nat.le_of_ble_eq_true rfl)

theorem c_X11_ask (l : Launch) (E : GE) (hT : l.stackTraces = false) {σ : Mem} {r : ((Int32 ⊕ Nat) × Mem)} (h : X11_ask σ = some r) : CtX l E yX11_ask cX11_ask 1 .int 13 1 [.ref (gB E + 0)] σ r.1 r.2 := by
  refine vx_ofW (cc := cX11_ask) (maxL := 1) (ret := (some .int)) (by decide) rfl ?_
  intro p e s m args below meth c s₁ B hml T0 hv
  obtain ⟨rfl, G, X⟩ := start hv
  have C := cxof B hml
  have hl := lv_entry [.ref (gB E + 0)] (n := 1) (Nat.le_of_ble_eq_true rfl)
  rw [lg_entry_eq]
  generalize (lg_sl [.ref (gB E + 0)] ++ List.replicate (1 - (lg_sl [.ref (gB E + 0)]).length) Slot.unset).toArray = ls at hl ⊢
  exact w_X11_ask C G T0 hT X hl h

set_option maxRecDepth 20000 in
theorem w_X1_comesBack_6 {r : (Int32 × Mem)} (C : Cx p s m args meth c cX1_comesBack (some .boolean) 7 RX1) (G : Gf E s) : ∀ (f : Nat) {a1 : Nat} {a2 : Nat} {x3 : Int32} {x4 : Int32} {x5 : Int32} {σ : Mem} {ls : Array Slot} {H : Heap} {locs : List Loc}, Hx E σ s H locs → kd a1 = 2 → kd a2 = 3 → lv_has ls 7 [(0, .ref (gB E + 396)), (1, .ref (gB E + a1)), (2, .ref (gB E + a2)), (3, .int x3), (4, .int x4), (5, .int x5)] → X1_comesBack_6 f a1 a2 x3 x4 x5 σ = some r → W p l e (RM 7) s m args below meth c H locs 0 0 (QI E below args s r.1 r.2) (F0 m 6 ls []) := by
  intro f
  induction f with
  | zero =>
    intro a1 a2 x3 x4 x5 σ ls H locs X hk_a1 hk_a2 hl h
    rw [X1_comesBack_6] at h
    cases h
  | succ f ih =>
    intro a1 a2 x3 x4 x5 σ ls H locs X hk_a1 hk_a2 hl h
    rw [X1_comesBack_6] at h
    refine lv_iload C.1 C.2.1 dX1_comesBack_6 (lv_at hl 5 rfl) ?_
    refine lv_bipush (v := 6) C.1 C.2.1 dX1_comesBack_8 (by decide) ?_
    refine lv_icmp_ge (tgt := 56) C.1 C.2.1 dX1_comesBack_10 (by decide) (fun c10 => ?_) (fun c10 => ?_)
    · replace h := ipos c10 h
      refine lv_iconst (v := 0) C.1 C.2.1 dX1_comesBack_56 (by decide) ?_
      obtain ⟨u57, z57, h⟩ := bnd h
      rw [← Option.some.inj h]
      exact rtZ C X (gb_s z57) dX1_comesBack_57
    · replace h := ineg c10 h
      refine lv_aload_n C.1 C.2.1 dX1_comesBack_13 rfl (lv_at hl 0 rfl) ?_
      refine lv_aload_n C.1 C.2.1 dX1_comesBack_14 rfl (lv_at hl 1 rfl) ?_
      refine lv_aload_n C.1 C.2.1 dX1_comesBack_15 rfl (lv_at hl 2 rfl) ?_
      refine lv_iload C.1 C.2.1 dX1_comesBack_16 (lv_at hl 4 rfl) ?_
      obtain ⟨r18, σ18, e18, h⟩ := bnd2 h
      refine afI (r0 := r18) (σ' := σ18) X (runV C G X q_X1_turnOf k_1226 k_1227 k_1509 (rcX1 G X kd_396) (c_X1_turnOf l E hk_a1 hk_a2 e18) rfl hl.1 rfl (Nat.le_of_ble_eq_true rfl) ⟨Nat.le_of_ble_eq_true rfl, Nat.le_of_ble_eq_true rfl⟩ ⟨Nat.le_of_ble_eq_true rfl, Nat.le_of_ble_eq_true rfl⟩ dX1_comesBack_18) (fun H locs X => ?_)
      refine lv_istore (lv' := [(6, .int r18), (0, .ref (gB E + 396)), (1, .ref (gB E + a1)), (2, .ref (gB E + a2)), (3, .int x3), (4, .int x4), (5, .int x5)]) C.1 C.2.1 dX1_comesBack_21 hl (by decide) rfl (fun ls hl => ?_)
      refine lv_iload C.1 C.2.1 dX1_comesBack_23 (lv_at hl 0 rfl) ?_
      refine lv_iconst (v := -1) C.1 C.2.1 dX1_comesBack_25 (by decide) ?_
      refine lv_icmp_ne (tgt := 31) C.1 C.2.1 dX1_comesBack_26 (by decide) (fun c26 => ?_) (fun c26 => ?_)
      · replace h := ineg c26 h
        refine lv_aload_n C.1 C.2.1 dX1_comesBack_31 rfl (lv_at hl 2 rfl) ?_
        refine gfX7 C G X (k := a1) hk_a1 10 (v := .ref (gB E + (a1 + 3))) rfl rfl (by decide) k_236 rfl dX1_comesBack_32 ?_
        refine lv_iload C.1 C.2.1 dX1_comesBack_35 (lv_at hl 0 rfl) ?_
        obtain ⟨r37, e37, h⟩ := bnd h
        refine afI X (runV C G X q_X6_get k_498 k_499 k_627 (rcX6 G X (kf_2_3 hk_a1)) (c_X6_get l E (kf_2_3 hk_a1) e37) rfl hl.1 rfl (Nat.le_of_ble_eq_true rfl) ⟨Nat.le_of_ble_eq_true rfl, Nat.le_of_ble_eq_true rfl⟩ ⟨Nat.le_of_ble_eq_true rfl, Nat.le_of_ble_eq_true rfl⟩ dX1_comesBack_37) (fun H locs X => ?_)
        refine lv_istore (lv' := [(4, .int r37), (6, .int r18), (0, .ref (gB E + 396)), (1, .ref (gB E + a1)), (2, .ref (gB E + a2)), (3, .int x3), (5, .int x5)]) C.1 C.2.1 dX1_comesBack_40 hl (by decide) rfl (fun ls hl => ?_)
        refine lv_iload C.1 C.2.1 dX1_comesBack_42 (lv_at hl 0 rfl) ?_
        refine lv_iload_n C.1 C.2.1 dX1_comesBack_44 rfl (lv_at hl 5 rfl) ?_
        refine lv_icmp_ne (tgt := 50) C.1 C.2.1 dX1_comesBack_45 (by decide) (fun c45 => ?_) (fun c45 => ?_)
        · replace h := ineg c45 h
          refine lv_iinc (v := (x5 + 1)) (lv' := [(5, .int (x5 + 1)), (4, .int r37), (6, .int r18), (0, .ref (gB E + 396)), (1, .ref (gB E + a1)), (2, .ref (gB E + a2)), (3, .int x3)]) C.1 C.2.1 dX1_comesBack_50 hl (k := 6) rfl rfl (by decide) rfl (fun ls hl => ?_)
          refine lv_goto (tgt := 6) C.1 C.2.1 dX1_comesBack_53 (by decide) ?_
          exact ih X hk_a1 hk_a2 (lv_sub hl [3, 4, 5, 6, 1, 0] rfl) h
        · replace h := ipos c45 h
          refine lv_iconst (v := 1) C.1 C.2.1 dX1_comesBack_48 (by decide) ?_
          obtain ⟨u49, z49, h⟩ := bnd h
          rw [← Option.some.inj h]
          exact rtZ C X (gb_s z49) dX1_comesBack_49
      · replace h := ipos c26 h
        refine lv_iconst (v := 0) C.1 C.2.1 dX1_comesBack_29 (by decide) ?_
        obtain ⟨u30, z30, h⟩ := bnd h
        rw [← Option.some.inj h]
        exact rtZ C X (gb_s z30) dX1_comesBack_30

set_option maxRecDepth 20000 in
theorem w_X1_comesBack {r : (Int32 × Mem)} {σ : Mem} {a1 : Nat} {a2 : Nat} {x3 : Int32} {ls : Array Slot} {H : Heap} {locs : List Loc} (C : Cx p s m args meth c cX1_comesBack (some .boolean) 7 RX1) (G : Gf E s) (X : Hx E σ s H locs) (hk_a1 : kd a1 = 2) (hk_a2 : kd a2 = 3) (hl : lv_has ls 7 [(0, .ref (gB E + 396)), (1, .ref (gB E + a1)), (2, .ref (gB E + a2)), (3, .int x3)]) (h : X1_comesBack a1 a2 x3 σ = some r) : W p l e (RM 7) s m args below meth c H locs 0 0 (QI E below args s r.1 r.2) (F0 m 0 ls []) := by
  rw [X1_comesBack] at h
  refine lv_iload_n C.1 C.2.1 dX1_comesBack_0 rfl (lv_at hl 3 rfl) ?_
  refine lv_istore (lv' := [(4, .int x3), (0, .ref (gB E + 396)), (1, .ref (gB E + a1)), (2, .ref (gB E + a2)), (3, .int x3)]) C.1 C.2.1 dX1_comesBack_1 hl (by decide) rfl (fun ls hl => ?_)
  refine lv_iconst (v := 0) C.1 C.2.1 dX1_comesBack_3 (by decide) ?_
  refine lv_istore (lv' := [(5, .int (0 : Int32)), (4, .int x3), (0, .ref (gB E + 396)), (1, .ref (gB E + a1)), (2, .ref (gB E + a2)), (3, .int x3)]) C.1 C.2.1 dX1_comesBack_4 hl (by decide) rfl (fun ls hl => ?_)
  exact w_X1_comesBack_6 C G FU X hk_a1 hk_a2 (lv_sub hl [2, 3, 4, 5, 1, 0] rfl) h

theorem c_X1_comesBack (l : Launch) (E : GE) {σ : Mem} {a1 : Nat} {a2 : Nat} {x3 : Int32} (hk_a1 : kd a1 = 2) (hk_a2 : kd a2 = 3) {r : (Int32 × Mem)} (h : X1_comesBack a1 a2 x3 σ = some r) : CtI l E yX1_comesBack cX1_comesBack 7 .boolean 7 [.ref (gB E + 396), .ref (gB E + a1), .ref (gB E + a2), .int x3] σ r.1 r.2 := by
  refine Met.ofW (cc := cX1_comesBack) (maxL := 7) (ret := (some .boolean)) (by decide) rfl ?_
  intro p e s m args below meth c s₁ B hml hv
  obtain ⟨rfl, G, X⟩ := start hv
  have C := cxof B hml
  have hl := lv_entry [.ref (gB E + 396), .ref (gB E + a1), .ref (gB E + a2), .int x3] (n := 7) (Nat.le_of_ble_eq_true rfl)
  rw [lg_entry_eq]
  generalize (lg_sl [.ref (gB E + 396), .ref (gB E + a1), .ref (gB E + a2), .int x3] ++ List.replicate (7 - (lg_sl [.ref (gB E + 396), .ref (gB E + a1), .ref (gB E + a2), .int x3]).length) Slot.unset).toArray = ls at hl ⊢
  exact w_X1_comesBack C G X hk_a1 hk_a2 hl h

set_option maxRecDepth 20000 in
theorem w_X11_ring {r : ((Int32 ⊕ Nat) × Mem)} {σ : Mem} {x1 : Int32} {ls : Array Slot} {H : Heap} {locs : List Loc} (C : Cx p s m args meth c cX11_ring (some .boolean) 2 RX11) (G : Gf E s) (T0 : ∀ x ∈ c.exceptionTable.toList, False) (hT : l.stackTraces = false) (X : Hx E σ s H locs) (hl : lv_has ls 2 [(0, .ref (gB E + 0)), (1, .int x1)]) (h : X11_ring x1 σ = some r) : W p l e (RX 13 1) s m args below meth c H locs 0 0 (QX E below args s 1 r.1 r.2) (F0 m 0 ls []) := by
  rw [X11_ring] at h
  refine lv_aload_n C.1 C.2.1 dX11_ring_0 rfl (lv_at hl 0 rfl) ?_
  refine lv_iload_n C.1 C.2.1 dX11_ring_1 rfl (lv_at hl 1 rfl) ?_
  rcases bndx h with ⟨r2, e2, h⟩ | ⟨x2_, e2, h⟩
  · refine axV X (runXV C G X q_X11_needWalker k_1216 kp_12 k_1214 (rcX11 G X kd_0) (c_X11_needWalker l E hT e2) rfl hl.1 rfl (Nat.le_of_ble_eq_true rfl) ⟨Nat.le_of_ble_eq_true rfl, Nat.le_of_ble_eq_true rfl⟩ ⟨Nat.le_of_ble_eq_true rfl, Nat.le_of_ble_eq_true rfl⟩ dX11_ring_2) (fun r9 H locs er X => ?_) (fun x9 H locs q9 ce er X hz hv hcl => nomatch er)
    refine lv_aload_n C.1 C.2.1 dX11_ring_5 rfl (lv_at hl 0 rfl) ?_
    refine gfX11 C G X (k := 0) kd_0 11 (v := .ref (gB E + 396)) rfl rfl (by decide) k_416 rfl dX11_ring_6 ?_
    refine lv_aload_n C.1 C.2.1 dX11_ring_9 rfl (lv_at hl 0 rfl) ?_
    refine gfX11 C G X (k := 0) kd_0 1 (v := .ref (gB E + 9)) rfl rfl (by decide) k_406 rfl dX11_ring_10 ?_
    refine lv_aload_n C.1 C.2.1 dX11_ring_13 rfl (lv_at hl 0 rfl) ?_
    refine gfX11 C G X (k := 0) kd_0 4 (v := .ref (gB E + 72)) rfl rfl (by decide) k_409 rfl dX11_ring_14 ?_
    refine lv_iload_n C.1 C.2.1 dX11_ring_17 rfl (lv_at hl 1 rfl) ?_
    obtain ⟨r18, σ18, e18, h⟩ := bnd2 h
    refine afI (r0 := r18) (σ' := σ18) X (runV C G X q_X1_comesBack k_1506 k_1507 k_1505 (rcX1 G X kd_396) (c_X1_comesBack l E kd_9 kd_72 e18) rfl hl.1 rfl (Nat.le_of_ble_eq_true rfl) ⟨Nat.le_of_ble_eq_true rfl, Nat.le_of_ble_eq_true rfl⟩ ⟨Nat.le_of_ble_eq_true rfl, Nat.le_of_ble_eq_true rfl⟩ dX11_ring_18) (fun H locs X => ?_)
    obtain ⟨u21, z21, h⟩ := bnd h
    rw [← Option.some.inj h]
    exact vx_ret (rtxZ C X (gb_s z21) dX11_ring_21)
  · refine axV X (runXV C G X q_X11_needWalker k_1216 kp_12 k_1214 (rcX11 G X kd_0) (c_X11_needWalker l E hT e2) rfl hl.1 rfl (Nat.le_of_ble_eq_true rfl) ⟨Nat.le_of_ble_eq_true rfl, Nat.le_of_ble_eq_true rfl⟩ ⟨Nat.le_of_ble_eq_true rfl, Nat.le_of_ble_eq_true rfl⟩ dX11_ring_2) (fun r9 H locs er X => nomatch er) (fun x9 H locs q9 ce er X hz hv hcl => ?_)
    rw [← Sum.inr.inj er] at hcl
    rw [← Option.some.inj h]
    exact xout C X T0 hz hv hcl (Nat.le_of_ble_eq_true rfl) (Nat.le_of_ble_eq_true rfl)

theorem c_X11_ring (l : Launch) (E : GE) (hT : l.stackTraces = false) {σ : Mem} {x1 : Int32} {r : ((Int32 ⊕ Nat) × Mem)} (h : X11_ring x1 σ = some r) : CtX l E yX11_ring cX11_ring 2 .boolean 13 1 [.ref (gB E + 0), .int x1] σ r.1 r.2 := by
  refine vx_ofW (cc := cX11_ring) (maxL := 2) (ret := (some .boolean)) (by decide) rfl ?_
  intro p e s m args below meth c s₁ B hml T0 hv
  obtain ⟨rfl, G, X⟩ := start hv
  have C := cxof B hml
  have hl := lv_entry [.ref (gB E + 0), .int x1] (n := 2) (Nat.le_of_ble_eq_true rfl)
  rw [lg_entry_eq]
  generalize (lg_sl [.ref (gB E + 0), .int x1] ++ List.replicate (2 - (lg_sl [.ref (gB E + 0), .int x1]).length) Slot.unset).toArray = ls at hl ⊢
  exact w_X11_ring C G T0 hT X hl h

set_option maxRecDepth 20000 in
theorem w_X1_likesTogether_17 {r : Int32} {σ : Mem} {rc5 : Nat → Int32 → Int32 → Int32 → Option Int32} (C : Cx p s m args meth c cX1_likesTogether (some .int) 6 RX1) (G : Gf E s) (hr5 : ∀ {a1 : Nat} {x2 : Int32} {x3 : Int32} {x4 : Int32} {ls : Array Slot} {H : Heap} {locs : List Loc}, Hx E σ s H locs → kd a1 = 2 → lv_has ls 6 [(1, .ref (gB E + a1)), (2, .int x2), (3, .int x3), (4, .int x4)] → rc5 a1 x2 x3 x4 = some r → W p l e (RM 3) s m args below meth c H locs 0 0 (QI E below args s r σ) (F0 m 5 ls [])) : ∀ (f : Nat) {a1 : Nat} {x2 : Int32} {x3 : Int32} {x4 : Int32} {x5 : Int32} {ls : Array Slot} {H : Heap} {locs : List Loc}, Hx E σ s H locs → kd a1 = 2 → lv_has ls 6 [(1, .ref (gB E + a1)), (2, .int x2), (3, .int x3), (4, .int x4), (5, .int x5)] → X1_likesTogether_17 σ rc5 f a1 x2 x3 x4 x5 = some r → W p l e (RM 3) s m args below meth c H locs 0 0 (QI E below args s r σ) (F0 m 17 ls []) := by
  intro f
  induction f with
  | zero =>
    intro a1 x2 x3 x4 x5 ls H locs X hk_a1 hl h
    rw [X1_likesTogether_17] at h
    cases h
  | succ f ih =>
    intro a1 x2 x3 x4 x5 ls H locs X hk_a1 hl h
    rw [X1_likesTogether_17] at h
    refine lv_iload C.1 C.2.1 dX1_likesTogether_17 (lv_at hl 4 rfl) ?_
    refine lv_aload_n C.1 C.2.1 dX1_likesTogether_19 rfl (lv_at hl 0 rfl) ?_
    refine gfX7 C G X (k := a1) hk_a1 1 (v := .int (σ a1 1)) rfl rfl (by decide) k_204 rfl dX1_likesTogether_20 ?_
    refine lv_icmp_ge (tgt := 65) C.1 C.2.1 dX1_likesTogether_23 (by decide) (fun c23 => ?_) (fun c23 => ?_)
    · replace h := ipos c23 h
      refine lv_iinc (v := (x4 + 1)) (lv' := [(4, .int (x4 + 1)), (1, .ref (gB E + a1)), (2, .int x2), (3, .int x3), (5, .int x5)]) C.1 C.2.1 dX1_likesTogether_65 hl (k := 3) rfl rfl (by decide) rfl (fun ls hl => ?_)
      refine lv_goto (tgt := 5) C.1 C.2.1 dX1_likesTogether_68 (by decide) ?_
      exact hr5 X hk_a1 (lv_sub hl [1, 2, 3, 0] rfl) h
    · replace h := ineg c23 h
      refine lv_iload C.1 C.2.1 dX1_likesTogether_26 (lv_at hl 3 rfl) ?_
      refine lv_iload C.1 C.2.1 dX1_likesTogether_28 (lv_at hl 4 rfl) ?_
      refine lv_icmp_eq (tgt := 59) C.1 C.2.1 dX1_likesTogether_30 (by decide) (fun c30 => ?_) (fun c30 => ?_)
      · replace h := ipos c30 h
        refine lv_iinc (v := (x5 + 1)) (lv' := [(5, .int (x5 + 1)), (1, .ref (gB E + a1)), (2, .int x2), (3, .int x3), (4, .int x4)]) C.1 C.2.1 dX1_likesTogether_59 hl (k := 4) rfl rfl (by decide) rfl (fun ls hl => ?_)
        refine lv_goto (tgt := 17) C.1 C.2.1 dX1_likesTogether_62 (by decide) ?_
        exact ih X hk_a1 (lv_sub hl [1, 2, 3, 4, 0] rfl) h
      · replace h := ineg c30 h
        refine lv_iload_n C.1 C.2.1 dX1_likesTogether_33 rfl (lv_at hl 1 rfl) ?_
        refine lv_iload C.1 C.2.1 dX1_likesTogether_34 (lv_at hl 3 rfl) ?_
        obtain ⟨r36, e36, h⟩ := bnd h
        refine afI X (runN C G X q_X11_hasBit k_509 nw_15 (c_X11_hasBit l E e36) rfl hl.1 rfl (Nat.le_of_ble_eq_true rfl) ⟨Nat.le_of_ble_eq_true rfl, Nat.le_of_ble_eq_true rfl⟩ ⟨Nat.le_of_ble_eq_true rfl, Nat.le_of_ble_eq_true rfl⟩ dX1_likesTogether_36) (fun H locs X => ?_)
        refine lv_iload_n C.1 C.2.1 dX1_likesTogether_39 rfl (lv_at hl 1 rfl) ?_
        refine lv_iload C.1 C.2.1 dX1_likesTogether_40 (lv_at hl 4 rfl) ?_
        obtain ⟨r42, e42, h⟩ := bnd h
        refine afI X (runN C G X q_X11_hasBit k_509 nw_15 (c_X11_hasBit l E e42) rfl hl.1 rfl (Nat.le_of_ble_eq_true rfl) ⟨Nat.le_of_ble_eq_true rfl, Nat.le_of_ble_eq_true rfl⟩ ⟨Nat.le_of_ble_eq_true rfl, Nat.le_of_ble_eq_true rfl⟩ dX1_likesTogether_42) (fun H locs X => ?_)
        refine lv_icmp_ne (tgt := 59) C.1 C.2.1 dX1_likesTogether_45 (by decide) (fun c45 => ?_) (fun c45 => ?_)
        · replace h := ineg c45 h
          refine lv_iinc (v := (x5 + 1)) (lv' := [(5, .int (x5 + 1)), (1, .ref (gB E + a1)), (2, .int x2), (3, .int x3), (4, .int x4)]) C.1 C.2.1 dX1_likesTogether_59 hl (k := 4) rfl rfl (by decide) rfl (fun ls hl => ?_)
          refine lv_goto (tgt := 17) C.1 C.2.1 dX1_likesTogether_62 (by decide) ?_
          exact ih X hk_a1 (lv_sub hl [1, 2, 3, 4, 0] rfl) h
        · replace h := ipos c45 h
          refine lv_iload_n C.1 C.2.1 dX1_likesTogether_48 rfl (lv_at hl 2 rfl) ?_
          refine lv_aload_n C.1 C.2.1 dX1_likesTogether_49 rfl (lv_at hl 0 rfl) ?_
          refine lv_iload C.1 C.2.1 dX1_likesTogether_50 (lv_at hl 3 rfl) ?_
          refine lv_iload C.1 C.2.1 dX1_likesTogether_52 (lv_at hl 4 rfl) ?_
          obtain ⟨r54, e54, h⟩ := bnd h
          refine afI X (runV C G X q_X7_likesOf k_530 k_531 k_693 (rcX7 G X hk_a1) (c_X7_likesOf l E hk_a1 e54) rfl hl.1 rfl (Nat.le_of_ble_eq_true rfl) ⟨Nat.le_of_ble_eq_true rfl, Nat.le_of_ble_eq_true rfl⟩ ⟨Nat.le_of_ble_eq_true rfl, Nat.le_of_ble_eq_true rfl⟩ dX1_likesTogether_54) (fun H locs X => ?_)
          refine lv_iadd C.1 C.2.1 dX1_likesTogether_57 ?_
          refine lv_istore_n (lv' := [(3, .int (x3 + r54)), (1, .ref (gB E + a1)), (2, .int x2), (4, .int x4), (5, .int x5)]) C.1 C.2.1 dX1_likesTogether_58 rfl hl (by decide) rfl (fun ls hl => ?_)
          refine lv_iinc (v := (x5 + 1)) (lv' := [(5, .int (x5 + 1)), (3, .int (x3 + r54)), (1, .ref (gB E + a1)), (2, .int x2), (4, .int x4)]) C.1 C.2.1 dX1_likesTogether_59 hl (k := 4) rfl rfl (by decide) rfl (fun ls hl => ?_)
          refine lv_goto (tgt := 17) C.1 C.2.1 dX1_likesTogether_62 (by decide) ?_
          exact ih X hk_a1 (lv_sub hl [2, 3, 1, 4, 0] rfl) h

set_option maxRecDepth 20000 in
theorem w_X1_likesTogether_5 {r : Int32} {σ : Mem} (C : Cx p s m args meth c cX1_likesTogether (some .int) 6 RX1) (G : Gf E s) : ∀ (f : Nat) {a1 : Nat} {x2 : Int32} {x3 : Int32} {x4 : Int32} {ls : Array Slot} {H : Heap} {locs : List Loc}, Hx E σ s H locs → kd a1 = 2 → lv_has ls 6 [(1, .ref (gB E + a1)), (2, .int x2), (3, .int x3), (4, .int x4)] → X1_likesTogether_5 σ f a1 x2 x3 x4 = some r → W p l e (RM 3) s m args below meth c H locs 0 0 (QI E below args s r σ) (F0 m 5 ls []) := by
  intro f
  induction f with
  | zero =>
    intro a1 x2 x3 x4 ls H locs X hk_a1 hl h
    rw [X1_likesTogether_5] at h
    cases h
  | succ f ih =>
    intro a1 x2 x3 x4 ls H locs X hk_a1 hl h
    rw [X1_likesTogether_5] at h
    refine lv_iload C.1 C.2.1 dX1_likesTogether_5 (lv_at hl 3 rfl) ?_
    refine lv_aload_n C.1 C.2.1 dX1_likesTogether_7 rfl (lv_at hl 0 rfl) ?_
    refine gfX7 C G X (k := a1) hk_a1 1 (v := .int (σ a1 1)) rfl rfl (by decide) k_204 rfl dX1_likesTogether_8 ?_
    refine lv_icmp_ge (tgt := 71) C.1 C.2.1 dX1_likesTogether_11 (by decide) (fun c11 => ?_) (fun c11 => ?_)
    · replace h := ipos c11 h
      refine lv_iload_n C.1 C.2.1 dX1_likesTogether_71 rfl (lv_at hl 2 rfl) ?_
      rw [← Option.some.inj h]
      exact rtI C X dX1_likesTogether_72
    · replace h := ineg c11 h
      refine lv_iconst (v := 0) C.1 C.2.1 dX1_likesTogether_14 (by decide) ?_
      refine lv_istore (lv' := [(5, .int (0 : Int32)), (1, .ref (gB E + a1)), (2, .int x2), (3, .int x3), (4, .int x4)]) C.1 C.2.1 dX1_likesTogether_15 hl (by decide) rfl (fun ls hl => ?_)
      exact w_X1_likesTogether_17 C G ih FU X hk_a1 (lv_sub hl [1, 2, 3, 4, 0] rfl) h

set_option maxRecDepth 20000 in
theorem w_X1_likesTogether {r : Int32} {σ : Mem} {a1 : Nat} {x2 : Int32} {ls : Array Slot} {H : Heap} {locs : List Loc} (C : Cx p s m args meth c cX1_likesTogether (some .int) 6 RX1) (G : Gf E s) (X : Hx E σ s H locs) (hk_a1 : kd a1 = 2) (hl : lv_has ls 6 [(0, .ref (gB E + 396)), (1, .ref (gB E + a1)), (2, .int x2)]) (h : X1_likesTogether σ a1 x2 = some r) : W p l e (RM 3) s m args below meth c H locs 0 0 (QI E below args s r σ) (F0 m 0 ls []) := by
  rw [X1_likesTogether] at h
  refine lv_iconst (v := 0) C.1 C.2.1 dX1_likesTogether_0 (by decide) ?_
  refine lv_istore_n (lv' := [(3, .int (0 : Int32)), (0, .ref (gB E + 396)), (1, .ref (gB E + a1)), (2, .int x2)]) C.1 C.2.1 dX1_likesTogether_1 rfl hl (by decide) rfl (fun ls hl => ?_)
  refine lv_iconst (v := 0) C.1 C.2.1 dX1_likesTogether_2 (by decide) ?_
  refine lv_istore (lv' := [(4, .int (0 : Int32)), (3, .int (0 : Int32)), (0, .ref (gB E + 396)), (1, .ref (gB E + a1)), (2, .int x2)]) C.1 C.2.1 dX1_likesTogether_3 hl (by decide) rfl (fun ls hl => ?_)
  exact w_X1_likesTogether_5 C G FU X hk_a1 (lv_sub hl [3, 4, 1, 0] rfl) h

theorem c_X1_likesTogether (l : Launch) (E : GE) {σ : Mem} {a1 : Nat} {x2 : Int32} (hk_a1 : kd a1 = 2) {r : Int32} (h : X1_likesTogether σ a1 x2 = some r) : CtI l E yX1_likesTogether cX1_likesTogether 6 .int 3 [.ref (gB E + 396), .ref (gB E + a1), .int x2] σ r σ := by
  refine Met.ofW (cc := cX1_likesTogether) (maxL := 6) (ret := (some .int)) (by decide) rfl ?_
  intro p e s m args below meth c s₁ B hml hv
  obtain ⟨rfl, G, X⟩ := start hv
  have C := cxof B hml
  have hl := lv_entry [.ref (gB E + 396), .ref (gB E + a1), .int x2] (n := 6) (Nat.le_of_ble_eq_true rfl)
  rw [lg_entry_eq]
  generalize (lg_sl [.ref (gB E + 396), .ref (gB E + a1), .int x2] ++ List.replicate (6 - (lg_sl [.ref (gB E + 396), .ref (gB E + a1), .int x2]).length) Slot.unset).toArray = ls at hl ⊢
  exact w_X1_likesTogether C G X hk_a1 hl h

set_option maxRecDepth 20000 in
theorem w_X1_secondSide_17 {r : Int32} {σ : Mem} (C : Cx p s m args meth c cX1_secondSide (some .int) 6 RX1) (G : Gf E s) : ∀ (f : Nat) {a1 : Nat} {x2 : Int32} {x3 : Int32} {x4 : Int32} {ls : Array Slot} {H : Heap} {locs : List Loc}, Hx E σ s H locs → kd a1 = 2 → lv_has ls 6 [(0, .ref (gB E + 396)), (1, .ref (gB E + a1)), (2, .int x2), (3, .int x3), (4, .int x4)] → X1_secondSide_17 σ f a1 x2 x3 x4 = some r → W p l e (RM 4) s m args below meth c H locs 0 0 (QI E below args s r σ) (F0 m 17 ls []) := by
  intro f
  induction f with
  | zero =>
    intro a1 x2 x3 x4 ls H locs X hk_a1 hl h
    rw [X1_secondSide_17] at h
    cases h
  | succ f ih =>
    intro a1 x2 x3 x4 ls H locs X hk_a1 hl h
    rw [X1_secondSide_17] at h
    refine lv_iload C.1 C.2.1 dX1_secondSide_17 (lv_at hl 4 rfl) ?_
    refine lv_aload_n C.1 C.2.1 dX1_secondSide_19 rfl (lv_at hl 1 rfl) ?_
    refine gfX7 C G X (k := a1) hk_a1 1 (v := .int (σ a1 1)) rfl rfl (by decide) k_204 rfl dX1_secondSide_20 ?_
    obtain ⟨r23, e23, h⟩ := bnd h
    refine afI X (runN C G X q_X11_bit k_506 nw_11 (c_X11_bit l E e23) rfl hl.1 rfl (Nat.le_of_ble_eq_true rfl) ⟨Nat.le_of_ble_eq_true rfl, Nat.le_of_ble_eq_true rfl⟩ ⟨Nat.le_of_ble_eq_true rfl, Nat.le_of_ble_eq_true rfl⟩ dX1_secondSide_23) (fun H locs X => ?_)
    refine lv_icmp_ge (tgt := 56) C.1 C.2.1 dX1_secondSide_26 (by decide) (fun c26 => ?_) (fun c26 => ?_)
    · replace h := ipos c26 h
      refine lv_iload_n C.1 C.2.1 dX1_secondSide_56 rfl (lv_at hl 2 rfl) ?_
      rw [← Option.some.inj h]
      exact rtI C X dX1_secondSide_57
    · replace h := ineg c26 h
      refine lv_aload_n C.1 C.2.1 dX1_secondSide_29 rfl (lv_at hl 0 rfl) ?_
      refine lv_aload_n C.1 C.2.1 dX1_secondSide_30 rfl (lv_at hl 1 rfl) ?_
      refine lv_iload C.1 C.2.1 dX1_secondSide_31 (lv_at hl 4 rfl) ?_
      obtain ⟨r33, e33, h⟩ := bnd h
      refine afI X (runV C G X q_X1_likesTogether k_690 kp_3 k_688 (rcX1 G X kd_396) (c_X1_likesTogether l E hk_a1 e33) rfl hl.1 rfl (Nat.le_of_ble_eq_true rfl) ⟨Nat.le_of_ble_eq_true rfl, Nat.le_of_ble_eq_true rfl⟩ ⟨Nat.le_of_ble_eq_true rfl, Nat.le_of_ble_eq_true rfl⟩ dX1_secondSide_33) (fun H locs X => ?_)
      refine lv_istore (lv' := [(5, .int r33), (0, .ref (gB E + 396)), (1, .ref (gB E + a1)), (2, .int x2), (3, .int x3), (4, .int x4)]) C.1 C.2.1 dX1_secondSide_36 hl (by decide) rfl (fun ls hl => ?_)
      refine lv_iload C.1 C.2.1 dX1_secondSide_38 (lv_at hl 0 rfl) ?_
      refine lv_iload_n C.1 C.2.1 dX1_secondSide_40 rfl (lv_at hl 4 rfl) ?_
      refine lv_icmp_le (tgt := 50) C.1 C.2.1 dX1_secondSide_41 (by decide) (fun c41 => ?_) (fun c41 => ?_)
      · replace h := ipos c41 h
        refine lv_iinc (v := (x4 + 2)) (lv' := [(4, .int (x4 + 2)), (5, .int r33), (0, .ref (gB E + 396)), (1, .ref (gB E + a1)), (2, .int x2), (3, .int x3)]) C.1 C.2.1 dX1_secondSide_50 hl (k := 5) rfl rfl (by decide) rfl (fun ls hl => ?_)
        refine lv_goto (tgt := 17) C.1 C.2.1 dX1_secondSide_53 (by decide) ?_
        exact ih X hk_a1 (lv_sub hl [2, 3, 4, 5, 0] rfl) h
      · replace h := ineg c41 h
        refine lv_iload C.1 C.2.1 dX1_secondSide_44 (lv_at hl 0 rfl) ?_
        refine lv_istore_n (lv' := [(3, .int r33), (5, .int r33), (0, .ref (gB E + 396)), (1, .ref (gB E + a1)), (2, .int x2), (4, .int x4)]) C.1 C.2.1 dX1_secondSide_46 rfl hl (by decide) rfl (fun ls hl => ?_)
        refine lv_iload C.1 C.2.1 dX1_secondSide_47 (lv_at hl 5 rfl) ?_
        refine lv_istore_n (lv' := [(2, .int x4), (3, .int r33), (5, .int r33), (0, .ref (gB E + 396)), (1, .ref (gB E + a1)), (4, .int x4)]) C.1 C.2.1 dX1_secondSide_49 rfl hl (by decide) rfl (fun ls hl => ?_)
        refine lv_iinc (v := (x4 + 2)) (lv' := [(4, .int (x4 + 2)), (2, .int x4), (3, .int r33), (5, .int r33), (0, .ref (gB E + 396)), (1, .ref (gB E + a1))]) C.1 C.2.1 dX1_secondSide_50 hl (k := 5) rfl rfl (by decide) rfl (fun ls hl => ?_)
        refine lv_goto (tgt := 17) C.1 C.2.1 dX1_secondSide_53 (by decide) ?_
        exact ih X hk_a1 (lv_sub hl [4, 5, 1, 2, 0] rfl) h

set_option maxRecDepth 20000 in
theorem w_X1_secondSide {r : Int32} {σ : Mem} {a1 : Nat} {ls : Array Slot} {H : Heap} {locs : List Loc} (C : Cx p s m args meth c cX1_secondSide (some .int) 6 RX1) (G : Gf E s) (X : Hx E σ s H locs) (hk_a1 : kd a1 = 2) (hl : lv_has ls 6 [(0, .ref (gB E + 396)), (1, .ref (gB E + a1))]) (h : X1_secondSide σ a1 = some r) : W p l e (RM 4) s m args below meth c H locs 0 0 (QI E below args s r σ) (F0 m 0 ls []) := by
  rw [X1_secondSide] at h
  refine lv_aload_n C.1 C.2.1 dX1_secondSide_0 rfl (lv_at hl 1 rfl) ?_
  refine gfX7 C G X (k := a1) hk_a1 1 (v := .int (σ a1 1)) rfl rfl (by decide) k_204 rfl dX1_secondSide_1 ?_
  refine lv_iconst (v := 2) C.1 C.2.1 dX1_secondSide_4 (by decide) ?_
  refine lv_icmp_ge (tgt := 10) C.1 C.2.1 dX1_secondSide_5 (by decide) (fun c5 => ?_) (fun c5 => ?_)
  · replace h := ipos c5 h
    refine lv_iconst (v := -1) C.1 C.2.1 dX1_secondSide_10 (by decide) ?_
    refine lv_istore_n (lv' := [(2, .int (-1 : Int32)), (0, .ref (gB E + 396)), (1, .ref (gB E + a1))]) C.1 C.2.1 dX1_secondSide_11 rfl hl (by decide) rfl (fun ls hl => ?_)
    refine lv_iconst (v := -1) C.1 C.2.1 dX1_secondSide_12 (by decide) ?_
    refine lv_istore_n (lv' := [(3, .int (-1 : Int32)), (2, .int (-1 : Int32)), (0, .ref (gB E + 396)), (1, .ref (gB E + a1))]) C.1 C.2.1 dX1_secondSide_13 rfl hl (by decide) rfl (fun ls hl => ?_)
    refine lv_iconst (v := 2) C.1 C.2.1 dX1_secondSide_14 (by decide) ?_
    refine lv_istore (lv' := [(4, .int (2 : Int32)), (3, .int (-1 : Int32)), (2, .int (-1 : Int32)), (0, .ref (gB E + 396)), (1, .ref (gB E + a1))]) C.1 C.2.1 dX1_secondSide_15 hl (by decide) rfl (fun ls hl => ?_)
    exact w_X1_secondSide_17 C G FU X hk_a1 (lv_sub hl [3, 4, 2, 1, 0] rfl) h
  · replace h := ineg c5 h
    refine lv_iconst (v := -1) C.1 C.2.1 dX1_secondSide_8 (by decide) ?_
    rw [← Option.some.inj h]
    exact rtI C X dX1_secondSide_9

theorem c_X1_secondSide (l : Launch) (E : GE) {σ : Mem} {a1 : Nat} (hk_a1 : kd a1 = 2) {r : Int32} (h : X1_secondSide σ a1 = some r) : CtI l E yX1_secondSide cX1_secondSide 6 .int 4 [.ref (gB E + 396), .ref (gB E + a1)] σ r σ := by
  refine Met.ofW (cc := cX1_secondSide) (maxL := 6) (ret := (some .int)) (by decide) rfl ?_
  intro p e s m args below meth c s₁ B hml hv
  obtain ⟨rfl, G, X⟩ := start hv
  have C := cxof B hml
  have hl := lv_entry [.ref (gB E + 396), .ref (gB E + a1)] (n := 6) (Nat.le_of_ble_eq_true rfl)
  rw [lg_entry_eq]
  generalize (lg_sl [.ref (gB E + 396), .ref (gB E + a1)] ++ List.replicate (6 - (lg_sl [.ref (gB E + 396), .ref (gB E + a1)]).length) Slot.unset).toArray = ls at hl ⊢
  exact w_X1_secondSide C G X hk_a1 hl h

set_option maxRecDepth 20000 in
theorem w_X11_sides {r : Int32} {σ : Mem} {ls : Array Slot} {H : Heap} {locs : List Loc} (C : Cx p s m args meth c cX11_sides (some .int) 1 RX11) (G : Gf E s) (X : Hx E σ s H locs) (hl : lv_has ls 1 [(0, .ref (gB E + 0))]) (h : X11_sides σ = some r) : W p l e (RM 5) s m args below meth c H locs 0 0 (QI E below args s r σ) (F0 m 0 ls []) := by
  rw [X11_sides] at h
  refine lv_aload_n C.1 C.2.1 dX11_sides_0 rfl (lv_at hl 0 rfl) ?_
  refine gfX11 C G X (k := 0) kd_0 11 (v := .ref (gB E + 396)) rfl rfl (by decide) k_416 rfl dX11_sides_1 ?_
  refine lv_aload_n C.1 C.2.1 dX11_sides_4 rfl (lv_at hl 0 rfl) ?_
  refine gfX11 C G X (k := 0) kd_0 1 (v := .ref (gB E + 9)) rfl rfl (by decide) k_406 rfl dX11_sides_5 ?_
  obtain ⟨r8, e8, h⟩ := bnd h
  refine afI X (runV C G X q_X1_secondSide k_685 k_686 k_684 (rcX1 G X kd_396) (c_X1_secondSide l E kd_9 e8) rfl hl.1 rfl (Nat.le_of_ble_eq_true rfl) ⟨Nat.le_of_ble_eq_true rfl, Nat.le_of_ble_eq_true rfl⟩ ⟨Nat.le_of_ble_eq_true rfl, Nat.le_of_ble_eq_true rfl⟩ dX11_sides_8) (fun H locs X => ?_)
  rw [← Option.some.inj h]
  exact rtI C X dX11_sides_11

theorem c_X11_sides (l : Launch) (E : GE) {σ : Mem} {r : Int32} (h : X11_sides σ = some r) : CtI l E yX11_sides cX11_sides 1 .int 5 [.ref (gB E + 0)] σ r σ := by
  refine Met.ofW (cc := cX11_sides) (maxL := 1) (ret := (some .int)) (by decide) rfl ?_
  intro p e s m args below meth c s₁ B hml hv
  obtain ⟨rfl, G, X⟩ := start hv
  have C := cxof B hml
  have hl := lv_entry [.ref (gB E + 0)] (n := 1) (Nat.le_of_ble_eq_true rfl)
  rw [lg_entry_eq]
  generalize (lg_sl [.ref (gB E + 0)] ++ List.replicate (1 - (lg_sl [.ref (gB E + 0)]).length) Slot.unset).toArray = ls at hl ⊢
  exact w_X11_sides C G X hl h

set_option maxRecDepth 20000 in
theorem w_X1_arePair {r : Int32} {σ : Mem} {a1 : Nat} {x2 : Int32} {x3 : Int32} {ls : Array Slot} {H : Heap} {locs : List Loc} (C : Cx p s m args meth c cX1_arePair (some .boolean) 4 RX1) (G : Gf E s) (X : Hx E σ s H locs) (hk_a1 : kd a1 = 2) (hl : lv_has ls 4 [(0, .ref (gB E + 396)), (1, .ref (gB E + a1)), (2, .int x2), (3, .int x3)]) (h : X1_arePair σ a1 x2 x3 = some r) : W p l e (RM 4) s m args below meth c H locs 0 0 (QI E below args s r σ) (F0 m 0 ls []) := by
  rw [X1_arePair] at h
  refine lv_aload_n C.1 C.2.1 dX1_arePair_0 rfl (lv_at hl 1 rfl) ?_
  refine lv_aload_n C.1 C.2.1 dX1_arePair_1 rfl (lv_at hl 1 rfl) ?_
  refine gfX7 C G X (k := a1) hk_a1 13 (v := .ref (gB E + (a1 + 9))) rfl rfl (by decide) k_249 rfl dX1_arePair_2 ?_
  refine lv_iload_n C.1 C.2.1 dX1_arePair_5 rfl (lv_at hl 2 rfl) ?_
  obtain ⟨r6, e6, h⟩ := bnd h
  refine afI X (runV C G X q_X6_get k_498 k_499 k_627 (rcX6 G X (kf_2_9 hk_a1)) (c_X6_get l E (kf_2_9 hk_a1) e6) rfl hl.1 rfl (Nat.le_of_ble_eq_true rfl) ⟨Nat.le_of_ble_eq_true rfl, Nat.le_of_ble_eq_true rfl⟩ ⟨Nat.le_of_ble_eq_true rfl, Nat.le_of_ble_eq_true rfl⟩ dX1_arePair_6) (fun H locs X => ?_)
  refine lv_aload_n C.1 C.2.1 dX1_arePair_9 rfl (lv_at hl 1 rfl) ?_
  refine gfX7 C G X (k := a1) hk_a1 13 (v := .ref (gB E + (a1 + 9))) rfl rfl (by decide) k_249 rfl dX1_arePair_10 ?_
  refine lv_iload_n C.1 C.2.1 dX1_arePair_13 rfl (lv_at hl 3 rfl) ?_
  obtain ⟨r14, e14, h⟩ := bnd h
  refine afI X (runV C G X q_X6_get k_498 k_499 k_627 (rcX6 G X (kf_2_9 hk_a1)) (c_X6_get l E (kf_2_9 hk_a1) e14) rfl hl.1 rfl (Nat.le_of_ble_eq_true rfl) ⟨Nat.le_of_ble_eq_true rfl, Nat.le_of_ble_eq_true rfl⟩ ⟨Nat.le_of_ble_eq_true rfl, Nat.le_of_ble_eq_true rfl⟩ dX1_arePair_14) (fun H locs X => ?_)
  obtain ⟨r17, e17, h⟩ := bnd h
  refine afI X (runV C G X q_X7_farOf k_1230 k_1231 k_1229 (rcX7 G X hk_a1) (c_X7_farOf l E hk_a1 e17) rfl hl.1 rfl (Nat.le_of_ble_eq_true rfl) ⟨Nat.le_of_ble_eq_true rfl, Nat.le_of_ble_eq_true rfl⟩ ⟨Nat.le_of_ble_eq_true rfl, Nat.le_of_ble_eq_true rfl⟩ dX1_arePair_17) (fun H locs X => ?_)
  refine lv_iconst (v := -1) C.1 C.2.1 dX1_arePair_20 (by decide) ?_
  refine lv_icmp_eq (tgt := 28) C.1 C.2.1 dX1_arePair_21 (by decide) (fun c21 => ?_) (fun c21 => ?_)
  · replace h := ipos c21 h
    refine lv_iconst (v := 0) C.1 C.2.1 dX1_arePair_28 (by decide) ?_
    obtain ⟨u29, z29, h⟩ := bnd h
    rw [← Option.some.inj h]
    exact rtZ C X (gb_s z29) dX1_arePair_29
  · replace h := ineg c21 h
    refine lv_iconst (v := 1) C.1 C.2.1 dX1_arePair_24 (by decide) ?_
    refine lv_goto (tgt := 29) C.1 C.2.1 dX1_arePair_25 (by decide) ?_
    obtain ⟨u29, z29, h⟩ := bnd h
    rw [← Option.some.inj h]
    exact rtZ C X (gb_s z29) dX1_arePair_29

theorem c_X1_arePair (l : Launch) (E : GE) {σ : Mem} {a1 : Nat} {x2 : Int32} {x3 : Int32} (hk_a1 : kd a1 = 2) {r : Int32} (h : X1_arePair σ a1 x2 x3 = some r) : CtI l E yX1_arePair cX1_arePair 4 .boolean 4 [.ref (gB E + 396), .ref (gB E + a1), .int x2, .int x3] σ r σ := by
  refine Met.ofW (cc := cX1_arePair) (maxL := 4) (ret := (some .boolean)) (by decide) rfl ?_
  intro p e s m args below meth c s₁ B hml hv
  obtain ⟨rfl, G, X⟩ := start hv
  have C := cxof B hml
  have hl := lv_entry [.ref (gB E + 396), .ref (gB E + a1), .int x2, .int x3] (n := 4) (Nat.le_of_ble_eq_true rfl)
  rw [lg_entry_eq]
  generalize (lg_sl [.ref (gB E + 396), .ref (gB E + a1), .int x2, .int x3] ++ List.replicate (4 - (lg_sl [.ref (gB E + 396), .ref (gB E + a1), .int x2, .int x3]).length) Slot.unset).toArray = ls at hl ⊢
  exact w_X1_arePair C G X hk_a1 hl h

set_option maxRecDepth 20000 in
theorem w_X1_mostWith {r : Int32} {σ : Mem} {a1 : Nat} {x2 : Int32} {x3 : Int32} {x4 : Int32} {ls : Array Slot} {H : Heap} {locs : List Loc} (C : Cx p s m args meth c cX1_mostWith (some .int) 5 RX1) (G : Gf E s) (X : Hx E σ s H locs) (hk_a1 : kd a1 = 2) (hl : lv_has ls 5 [(0, .ref (gB E + 396)), (1, .ref (gB E + a1)), (2, .int x2), (3, .int x3), (4, .int x4)]) (h : X1_mostWith σ a1 x2 x3 x4 = some r) : W p l e (RM 3) s m args below meth c H locs 0 0 (QI E below args s r σ) (F0 m 0 ls []) := by
  rw [X1_mostWith] at h
  refine lv_aload_n C.1 C.2.1 dX1_mostWith_0 rfl (lv_at hl 1 rfl) ?_
  refine lv_iload_n C.1 C.2.1 dX1_mostWith_1 rfl (lv_at hl 3 rfl) ?_
  refine lv_iload C.1 C.2.1 dX1_mostWith_2 (lv_at hl 4 rfl) ?_
  obtain ⟨r4, e4, h⟩ := bnd h
  refine afI X (runV C G X q_X7_likesOf k_530 k_531 k_693 (rcX7 G X hk_a1) (c_X7_likesOf l E hk_a1 e4) rfl hl.1 rfl (Nat.le_of_ble_eq_true rfl) ⟨Nat.le_of_ble_eq_true rfl, Nat.le_of_ble_eq_true rfl⟩ ⟨Nat.le_of_ble_eq_true rfl, Nat.le_of_ble_eq_true rfl⟩ dX1_mostWith_4) (fun H locs X => ?_)
  refine lv_aload_n C.1 C.2.1 dX1_mostWith_7 rfl (lv_at hl 1 rfl) ?_
  refine lv_iload C.1 C.2.1 dX1_mostWith_8 (lv_at hl 4 rfl) ?_
  refine lv_iload_n C.1 C.2.1 dX1_mostWith_10 rfl (lv_at hl 3 rfl) ?_
  obtain ⟨r11, e11, h⟩ := bnd h
  refine afI X (runV C G X q_X7_likesOf k_530 k_531 k_693 (rcX7 G X hk_a1) (c_X7_likesOf l E hk_a1 e11) rfl hl.1 rfl (Nat.le_of_ble_eq_true rfl) ⟨Nat.le_of_ble_eq_true rfl, Nat.le_of_ble_eq_true rfl⟩ ⟨Nat.le_of_ble_eq_true rfl, Nat.le_of_ble_eq_true rfl⟩ dX1_mostWith_11) (fun H locs X => ?_)
  refine lv_iadd C.1 C.2.1 dX1_mostWith_14 ?_
  refine lv_aload_n C.1 C.2.1 dX1_mostWith_15 rfl (lv_at hl 0 rfl) ?_
  refine gfX1 C G X (k := 396) kd_396 0 (v := .ref (gB E + 397)) rfl rfl (by decide) k_401 rfl dX1_mostWith_16 ?_
  refine lv_iload_n C.1 C.2.1 dX1_mostWith_19 rfl (lv_at hl 2 rfl) ?_
  refine lv_iload_n C.1 C.2.1 dX1_mostWith_20 rfl (lv_at hl 3 rfl) ?_
  obtain ⟨r21, e21, h⟩ := bnd h
  refine afI X (runN C G X q_X11_bit k_506 nw_11 (c_X11_bit l E e21) rfl hl.1 rfl (Nat.le_of_ble_eq_true rfl) ⟨Nat.le_of_ble_eq_true rfl, Nat.le_of_ble_eq_true rfl⟩ ⟨Nat.le_of_ble_eq_true rfl, Nat.le_of_ble_eq_true rfl⟩ dX1_mostWith_21) (fun H locs X => ?_)
  refine lv_iconst (v := -1) C.1 C.2.1 dX1_mostWith_24 (by decide) ?_
  refine lv_ixor C.1 C.2.1 dX1_mostWith_25 ?_
  refine lv_iand C.1 C.2.1 dX1_mostWith_26 ?_
  refine lv_iload C.1 C.2.1 dX1_mostWith_27 (lv_at hl 4 rfl) ?_
  obtain ⟨r29, e29, h⟩ := bnd h
  refine afI X (runN C G X q_X11_bit k_506 nw_11 (c_X11_bit l E e29) rfl hl.1 rfl (Nat.le_of_ble_eq_true rfl) ⟨Nat.le_of_ble_eq_true rfl, Nat.le_of_ble_eq_true rfl⟩ ⟨Nat.le_of_ble_eq_true rfl, Nat.le_of_ble_eq_true rfl⟩ dX1_mostWith_29) (fun H locs X => ?_)
  refine lv_iconst (v := -1) C.1 C.2.1 dX1_mostWith_32 (by decide) ?_
  refine lv_ixor C.1 C.2.1 dX1_mostWith_33 ?_
  refine lv_iand C.1 C.2.1 dX1_mostWith_34 ?_
  obtain ⟨r35, e35, h⟩ := bnd h
  refine afI X (runV C G X q_X6_get k_498 k_499 k_627 (rcX6 G X kd_397) (c_X6_get l E kd_397 e35) rfl hl.1 rfl (Nat.le_of_ble_eq_true rfl) ⟨Nat.le_of_ble_eq_true rfl, Nat.le_of_ble_eq_true rfl⟩ ⟨Nat.le_of_ble_eq_true rfl, Nat.le_of_ble_eq_true rfl⟩ dX1_mostWith_35) (fun H locs X => ?_)
  refine lv_iadd C.1 C.2.1 dX1_mostWith_38 ?_
  rw [← Option.some.inj h]
  exact rtI C X dX1_mostWith_39

theorem c_X1_mostWith (l : Launch) (E : GE) {σ : Mem} {a1 : Nat} {x2 : Int32} {x3 : Int32} {x4 : Int32} (hk_a1 : kd a1 = 2) {r : Int32} (h : X1_mostWith σ a1 x2 x3 x4 = some r) : CtI l E yX1_mostWith cX1_mostWith 5 .int 3 [.ref (gB E + 396), .ref (gB E + a1), .int x2, .int x3, .int x4] σ r σ := by
  refine Met.ofW (cc := cX1_mostWith) (maxL := 5) (ret := (some .int)) (by decide) rfl ?_
  intro p e s m args below meth c s₁ B hml hv
  obtain ⟨rfl, G, X⟩ := start hv
  have C := cxof B hml
  have hl := lv_entry [.ref (gB E + 396), .ref (gB E + a1), .int x2, .int x3, .int x4] (n := 5) (Nat.le_of_ble_eq_true rfl)
  rw [lg_entry_eq]
  generalize (lg_sl [.ref (gB E + 396), .ref (gB E + a1), .int x2, .int x3, .int x4] ++ List.replicate (5 - (lg_sl [.ref (gB E + 396), .ref (gB E + a1), .int x2, .int x3, .int x4]).length) Slot.unset).toArray = ls at hl ⊢
  exact w_X1_mostWith C G X hk_a1 hl h

set_option maxRecDepth 20000 in
theorem w_X1_mostByPairs_40 {r : (Int32 × Mem)} {rc2 : Nat → Int32 → Mem → Option (Int32 × Mem)} (C : Cx p s m args meth c cX1_mostByPairs (some .int) 6 RX1) (G : Gf E s) (hr2 : ∀ {a1 : Nat} {x2 : Int32} {σ : Mem} {ls : Array Slot} {H : Heap} {locs : List Loc}, Hx E σ s H locs → kd a1 = 2 → lv_has ls 6 [(0, .ref (gB E + 396)), (1, .ref (gB E + a1)), (2, .int x2)] → rc2 a1 x2 σ = some r → W p l e (RM 5) s m args below meth c H locs 0 0 (QI E below args s r.1 r.2) (F0 m 2 ls [])) : ∀ (f : Nat) {a1 : Nat} {x2 : Int32} {x3 : Int32} {x4 : Int32} {x5 : Int32} {σ : Mem} {ls : Array Slot} {H : Heap} {locs : List Loc}, Hx E σ s H locs → kd a1 = 2 → lv_has ls 6 [(0, .ref (gB E + 396)), (1, .ref (gB E + a1)), (2, .int x2), (3, .int x3), (4, .int x4), (5, .int x5)] → X1_mostByPairs_40 rc2 f a1 x2 x3 x4 x5 σ = some r → W p l e (RM 5) s m args below meth c H locs 0 0 (QI E below args s r.1 r.2) (F0 m 40 ls []) := by
  intro f
  induction f with
  | zero =>
    intro a1 x2 x3 x4 x5 σ ls H locs X hk_a1 hl h
    rw [X1_mostByPairs_40] at h
    cases h
  | succ f ih =>
    intro a1 x2 x3 x4 x5 σ ls H locs X hk_a1 hl h
    rw [X1_mostByPairs_40] at h
    refine lv_iload C.1 C.2.1 dX1_mostByPairs_40 (lv_at hl 5 rfl) ?_
    refine lv_aload_n C.1 C.2.1 dX1_mostByPairs_42 rfl (lv_at hl 1 rfl) ?_
    refine gfX7 C G X (k := a1) hk_a1 1 (v := .int (σ a1 1)) rfl rfl (by decide) k_204 rfl dX1_mostByPairs_43 ?_
    refine lv_icmp_ge (tgt := 91) C.1 C.2.1 dX1_mostByPairs_46 (by decide) (fun c46 => ?_) (fun c46 => ?_)
    · replace h := ipos c46 h
      refine lv_aload_n C.1 C.2.1 dX1_mostByPairs_91 rfl (lv_at hl 0 rfl) ?_
      refine gfX1 C G X (k := 396) kd_396 0 (v := .ref (gB E + 397)) rfl rfl (by decide) k_401 rfl dX1_mostByPairs_92 ?_
      refine lv_iload_n C.1 C.2.1 dX1_mostByPairs_95 rfl (lv_at hl 2 rfl) ?_
      refine lv_iload C.1 C.2.1 dX1_mostByPairs_96 (lv_at hl 4 rfl) ?_
      obtain ⟨σ98, e98, h⟩ := bnd h
      refine afV X (runV C G X q_X6_set k_451 k_452 k_1530 (rcX6 G X kd_397) (c_X6_set l E kd_397 e98) rfl hl.1 rfl (Nat.le_of_ble_eq_true rfl) ⟨Nat.le_of_ble_eq_true rfl, Nat.le_of_ble_eq_true rfl⟩ ⟨Nat.le_of_ble_eq_true rfl, Nat.le_of_ble_eq_true rfl⟩ dX1_mostByPairs_98) (fun H locs X => ?_)
      refine lv_iinc (v := (x2 + 1)) (lv' := [(2, .int (x2 + 1)), (0, .ref (gB E + 396)), (1, .ref (gB E + a1)), (3, .int x3), (4, .int x4), (5, .int x5)]) C.1 C.2.1 dX1_mostByPairs_101 hl (k := 2) rfl rfl (by decide) rfl (fun ls hl => ?_)
      refine lv_goto (tgt := 2) C.1 C.2.1 dX1_mostByPairs_104 (by decide) ?_
      exact hr2 X hk_a1 (lv_sub hl [1, 2, 0] rfl) h
    · replace h := ineg c46 h
      refine lv_iload_n C.1 C.2.1 dX1_mostByPairs_49 rfl (lv_at hl 2 rfl) ?_
      refine lv_iload C.1 C.2.1 dX1_mostByPairs_50 (lv_at hl 5 rfl) ?_
      obtain ⟨r52, e52, h⟩ := bnd h
      refine afI X (runN C G X q_X11_hasBit k_509 nw_15 (c_X11_hasBit l E e52) rfl hl.1 rfl (Nat.le_of_ble_eq_true rfl) ⟨Nat.le_of_ble_eq_true rfl, Nat.le_of_ble_eq_true rfl⟩ ⟨Nat.le_of_ble_eq_true rfl, Nat.le_of_ble_eq_true rfl⟩ dX1_mostByPairs_52) (fun H locs X => ?_)
      refine lv_if_eq (tgt := 85) C.1 C.2.1 dX1_mostByPairs_55 (by decide) (fun c55 => ?_) (fun c55 => ?_)
      · replace h := ipos c55 h
        refine lv_iinc (v := (x5 + 1)) (lv' := [(5, .int (x5 + 1)), (0, .ref (gB E + 396)), (1, .ref (gB E + a1)), (2, .int x2), (3, .int x3), (4, .int x4)]) C.1 C.2.1 dX1_mostByPairs_85 hl (k := 5) rfl rfl (by decide) rfl (fun ls hl => ?_)
        refine lv_goto (tgt := 40) C.1 C.2.1 dX1_mostByPairs_88 (by decide) ?_
        exact ih X hk_a1 (lv_sub hl [1, 2, 3, 4, 5, 0] rfl) h
      · replace h := ineg c55 h
        refine lv_aload_n C.1 C.2.1 dX1_mostByPairs_58 rfl (lv_at hl 0 rfl) ?_
        refine lv_aload_n C.1 C.2.1 dX1_mostByPairs_59 rfl (lv_at hl 1 rfl) ?_
        refine lv_iload_n C.1 C.2.1 dX1_mostByPairs_60 rfl (lv_at hl 3 rfl) ?_
        refine lv_iload C.1 C.2.1 dX1_mostByPairs_61 (lv_at hl 5 rfl) ?_
        obtain ⟨r63, e63, h⟩ := bnd h
        refine afI X (runV C G X q_X1_arePair k_1524 kp_22 k_1522 (rcX1 G X kd_396) (c_X1_arePair l E hk_a1 e63) rfl hl.1 rfl (Nat.le_of_ble_eq_true rfl) ⟨Nat.le_of_ble_eq_true rfl, Nat.le_of_ble_eq_true rfl⟩ ⟨Nat.le_of_ble_eq_true rfl, Nat.le_of_ble_eq_true rfl⟩ dX1_mostByPairs_63) (fun H locs X => ?_)
        refine lv_if_eq (tgt := 85) C.1 C.2.1 dX1_mostByPairs_66 (by decide) (fun c66 => ?_) (fun c66 => ?_)
        · replace h := ipos c66 h
          refine lv_iinc (v := (x5 + 1)) (lv' := [(5, .int (x5 + 1)), (0, .ref (gB E + 396)), (1, .ref (gB E + a1)), (2, .int x2), (3, .int x3), (4, .int x4)]) C.1 C.2.1 dX1_mostByPairs_85 hl (k := 5) rfl rfl (by decide) rfl (fun ls hl => ?_)
          refine lv_goto (tgt := 40) C.1 C.2.1 dX1_mostByPairs_88 (by decide) ?_
          exact ih X hk_a1 (lv_sub hl [1, 2, 3, 4, 5, 0] rfl) h
        · replace h := ineg c66 h
          refine lv_iload C.1 C.2.1 dX1_mostByPairs_69 (lv_at hl 4 rfl) ?_
          refine lv_aload_n C.1 C.2.1 dX1_mostByPairs_71 rfl (lv_at hl 0 rfl) ?_
          refine lv_aload_n C.1 C.2.1 dX1_mostByPairs_72 rfl (lv_at hl 1 rfl) ?_
          refine lv_iload_n C.1 C.2.1 dX1_mostByPairs_73 rfl (lv_at hl 2 rfl) ?_
          refine lv_iload_n C.1 C.2.1 dX1_mostByPairs_74 rfl (lv_at hl 3 rfl) ?_
          refine lv_iload C.1 C.2.1 dX1_mostByPairs_75 (lv_at hl 5 rfl) ?_
          obtain ⟨r77, e77, h⟩ := bnd h
          refine afI X (runV C G X q_X1_mostWith k_1528 kp_23 k_1526 (rcX1 G X kd_396) (c_X1_mostWith l E hk_a1 e77) rfl hl.1 rfl (Nat.le_of_ble_eq_true rfl) ⟨Nat.le_of_ble_eq_true rfl, Nat.le_of_ble_eq_true rfl⟩ ⟨Nat.le_of_ble_eq_true rfl, Nat.le_of_ble_eq_true rfl⟩ dX1_mostByPairs_77) (fun H locs X => ?_)
          refine mmax C hl.1 (cells := 0) k_1224 ⟨Nat.le_of_ble_eq_true rfl, Nat.le_of_ble_eq_true rfl, Nat.le_of_ble_eq_true rfl, Nat.le_of_ble_eq_true rfl⟩ dX1_mostByPairs_80 ?_
          refine lv_istore (lv' := [(4, .int (if x4 < r77 then r77 else x4)), (0, .ref (gB E + 396)), (1, .ref (gB E + a1)), (2, .int x2), (3, .int x3), (5, .int x5)]) C.1 C.2.1 dX1_mostByPairs_83 hl (by decide) rfl (fun ls hl => ?_)
          refine lv_iinc (v := (x5 + 1)) (lv' := [(5, .int (x5 + 1)), (4, .int (if x4 < r77 then r77 else x4)), (0, .ref (gB E + 396)), (1, .ref (gB E + a1)), (2, .int x2), (3, .int x3)]) C.1 C.2.1 dX1_mostByPairs_85 hl (k := 5) rfl rfl (by decide) rfl (fun ls hl => ?_)
          refine lv_goto (tgt := 40) C.1 C.2.1 dX1_mostByPairs_88 (by decide) ?_
          exact ih X hk_a1 (lv_sub hl [2, 3, 4, 5, 1, 0] rfl) h

set_option maxRecDepth 20000 in
theorem w_X1_mostByPairs_2 {r : (Int32 × Mem)} (C : Cx p s m args meth c cX1_mostByPairs (some .int) 6 RX1) (G : Gf E s) : ∀ (f : Nat) {a1 : Nat} {x2 : Int32} {σ : Mem} {ls : Array Slot} {H : Heap} {locs : List Loc}, Hx E σ s H locs → kd a1 = 2 → lv_has ls 6 [(0, .ref (gB E + 396)), (1, .ref (gB E + a1)), (2, .int x2)] → X1_mostByPairs_2 f a1 x2 σ = some r → W p l e (RM 5) s m args below meth c H locs 0 0 (QI E below args s r.1 r.2) (F0 m 2 ls []) := by
  intro f
  induction f with
  | zero =>
    intro a1 x2 σ ls H locs X hk_a1 hl h
    rw [X1_mostByPairs_2] at h
    cases h
  | succ f ih =>
    intro a1 x2 σ ls H locs X hk_a1 hl h
    rw [X1_mostByPairs_2] at h
    refine lv_iload_n C.1 C.2.1 dX1_mostByPairs_2 rfl (lv_at hl 2 rfl) ?_
    refine lv_aload_n C.1 C.2.1 dX1_mostByPairs_3 rfl (lv_at hl 1 rfl) ?_
    refine gfX7 C G X (k := a1) hk_a1 1 (v := .int (σ a1 1)) rfl rfl (by decide) k_204 rfl dX1_mostByPairs_4 ?_
    obtain ⟨r7, e7, h⟩ := bnd h
    refine afI X (runN C G X q_X11_bit k_506 nw_11 (c_X11_bit l E e7) rfl hl.1 rfl (Nat.le_of_ble_eq_true rfl) ⟨Nat.le_of_ble_eq_true rfl, Nat.le_of_ble_eq_true rfl⟩ ⟨Nat.le_of_ble_eq_true rfl, Nat.le_of_ble_eq_true rfl⟩ dX1_mostByPairs_7) (fun H locs X => ?_)
    refine lv_icmp_ge (tgt := 107) C.1 C.2.1 dX1_mostByPairs_10 (by decide) (fun c10 => ?_) (fun c10 => ?_)
    · replace h := ipos c10 h
      refine lv_aload_n C.1 C.2.1 dX1_mostByPairs_107 rfl (lv_at hl 0 rfl) ?_
      refine gfX1 C G X (k := 396) kd_396 0 (v := .ref (gB E + 397)) rfl rfl (by decide) k_401 rfl dX1_mostByPairs_108 ?_
      refine lv_aload_n C.1 C.2.1 dX1_mostByPairs_111 rfl (lv_at hl 1 rfl) ?_
      refine gfX7 C G X (k := a1) hk_a1 1 (v := .int (σ a1 1)) rfl rfl (by decide) k_204 rfl dX1_mostByPairs_112 ?_
      obtain ⟨r115, e115, h⟩ := bnd h
      refine afI X (runN C G X q_X11_bit k_506 nw_11 (c_X11_bit l E e115) rfl hl.1 rfl (Nat.le_of_ble_eq_true rfl) ⟨Nat.le_of_ble_eq_true rfl, Nat.le_of_ble_eq_true rfl⟩ ⟨Nat.le_of_ble_eq_true rfl, Nat.le_of_ble_eq_true rfl⟩ dX1_mostByPairs_115) (fun H locs X => ?_)
      refine lv_iconst (v := 1) C.1 C.2.1 dX1_mostByPairs_118 (by decide) ?_
      refine lv_isub C.1 C.2.1 dX1_mostByPairs_119 ?_
      obtain ⟨r120, e120, h⟩ := bnd h
      refine afI X (runV C G X q_X6_get k_498 k_499 k_627 (rcX6 G X kd_397) (c_X6_get l E kd_397 e120) rfl hl.1 rfl (Nat.le_of_ble_eq_true rfl) ⟨Nat.le_of_ble_eq_true rfl, Nat.le_of_ble_eq_true rfl⟩ ⟨Nat.le_of_ble_eq_true rfl, Nat.le_of_ble_eq_true rfl⟩ dX1_mostByPairs_120) (fun H locs X => ?_)
      rw [← Option.some.inj h]
      exact rtI C X dX1_mostByPairs_123
    · replace h := ineg c10 h
      refine lv_iload_n C.1 C.2.1 dX1_mostByPairs_13 rfl (lv_at hl 2 rfl) ?_
      obtain ⟨r14, e14, h⟩ := bnd h
      refine afI X (runN C G X q_X11_lowest k_517 nw_17 (c_X11_lowest l E e14) rfl hl.1 rfl (Nat.le_of_ble_eq_true rfl) ⟨Nat.le_of_ble_eq_true rfl, Nat.le_of_ble_eq_true rfl⟩ ⟨Nat.le_of_ble_eq_true rfl, Nat.le_of_ble_eq_true rfl⟩ dX1_mostByPairs_14) (fun H locs X => ?_)
      refine lv_istore_n (lv' := [(3, .int r14), (0, .ref (gB E + 396)), (1, .ref (gB E + a1)), (2, .int x2)]) C.1 C.2.1 dX1_mostByPairs_17 rfl hl (by decide) rfl (fun ls hl => ?_)
      refine lv_aload_n C.1 C.2.1 dX1_mostByPairs_18 rfl (lv_at hl 1 rfl) ?_
      refine gfX1 C G X (k := 396) kd_396 0 (v := .ref (gB E + 397)) rfl rfl (by decide) k_401 rfl dX1_mostByPairs_19 ?_
      refine lv_iload_n C.1 C.2.1 dX1_mostByPairs_22 rfl (lv_at hl 3 rfl) ?_
      refine lv_iload_n C.1 C.2.1 dX1_mostByPairs_23 rfl (lv_at hl 0 rfl) ?_
      obtain ⟨r24, e24, h⟩ := bnd h
      refine afI X (runN C G X q_X11_bit k_506 nw_11 (c_X11_bit l E e24) rfl hl.1 rfl (Nat.le_of_ble_eq_true rfl) ⟨Nat.le_of_ble_eq_true rfl, Nat.le_of_ble_eq_true rfl⟩ ⟨Nat.le_of_ble_eq_true rfl, Nat.le_of_ble_eq_true rfl⟩ dX1_mostByPairs_24) (fun H locs X => ?_)
      refine lv_iconst (v := -1) C.1 C.2.1 dX1_mostByPairs_27 (by decide) ?_
      refine lv_ixor C.1 C.2.1 dX1_mostByPairs_28 ?_
      refine lv_iand C.1 C.2.1 dX1_mostByPairs_29 ?_
      obtain ⟨r30, e30, h⟩ := bnd h
      refine afI X (runV C G X q_X6_get k_498 k_499 k_627 (rcX6 G X kd_397) (c_X6_get l E kd_397 e30) rfl hl.1 rfl (Nat.le_of_ble_eq_true rfl) ⟨Nat.le_of_ble_eq_true rfl, Nat.le_of_ble_eq_true rfl⟩ ⟨Nat.le_of_ble_eq_true rfl, Nat.le_of_ble_eq_true rfl⟩ dX1_mostByPairs_30) (fun H locs X => ?_)
      refine lv_istore (lv' := [(4, .int r30), (3, .int r14), (0, .ref (gB E + 396)), (1, .ref (gB E + a1)), (2, .int x2)]) C.1 C.2.1 dX1_mostByPairs_33 hl (by decide) rfl (fun ls hl => ?_)
      refine lv_iload_n C.1 C.2.1 dX1_mostByPairs_35 rfl (lv_at hl 1 rfl) ?_
      refine lv_iconst (v := 1) C.1 C.2.1 dX1_mostByPairs_36 (by decide) ?_
      refine lv_iadd C.1 C.2.1 dX1_mostByPairs_37 ?_
      refine lv_istore (lv' := [(5, .int (r14 + (1 : Int32))), (4, .int r30), (3, .int r14), (0, .ref (gB E + 396)), (1, .ref (gB E + a1)), (2, .int x2)]) C.1 C.2.1 dX1_mostByPairs_38 hl (by decide) rfl (fun ls hl => ?_)
      exact w_X1_mostByPairs_40 C G ih FU X hk_a1 (lv_sub hl [3, 4, 5, 2, 1, 0] rfl) h

set_option maxRecDepth 20000 in
theorem w_X1_mostByPairs {r : (Int32 × Mem)} {σ : Mem} {a1 : Nat} {ls : Array Slot} {H : Heap} {locs : List Loc} (C : Cx p s m args meth c cX1_mostByPairs (some .int) 6 RX1) (G : Gf E s) (X : Hx E σ s H locs) (hk_a1 : kd a1 = 2) (hl : lv_has ls 6 [(0, .ref (gB E + 396)), (1, .ref (gB E + a1))]) (h : X1_mostByPairs a1 σ = some r) : W p l e (RM 5) s m args below meth c H locs 0 0 (QI E below args s r.1 r.2) (F0 m 0 ls []) := by
  rw [X1_mostByPairs] at h
  refine lv_iconst (v := 1) C.1 C.2.1 dX1_mostByPairs_0 (by decide) ?_
  refine lv_istore_n (lv' := [(2, .int (1 : Int32)), (0, .ref (gB E + 396)), (1, .ref (gB E + a1))]) C.1 C.2.1 dX1_mostByPairs_1 rfl hl (by decide) rfl (fun ls hl => ?_)
  exact w_X1_mostByPairs_2 C G FU X hk_a1 (lv_sub hl [1, 2, 0] rfl) h

theorem c_X1_mostByPairs (l : Launch) (E : GE) {σ : Mem} {a1 : Nat} (hk_a1 : kd a1 = 2) {r : (Int32 × Mem)} (h : X1_mostByPairs a1 σ = some r) : CtI l E yX1_mostByPairs cX1_mostByPairs 6 .int 5 [.ref (gB E + 396), .ref (gB E + a1)] σ r.1 r.2 := by
  refine Met.ofW (cc := cX1_mostByPairs) (maxL := 6) (ret := (some .int)) (by decide) rfl ?_
  intro p e s m args below meth c s₁ B hml hv
  obtain ⟨rfl, G, X⟩ := start hv
  have C := cxof B hml
  have hl := lv_entry [.ref (gB E + 396), .ref (gB E + a1)] (n := 6) (Nat.le_of_ble_eq_true rfl)
  rw [lg_entry_eq]
  generalize (lg_sl [.ref (gB E + 396), .ref (gB E + a1)] ++ List.replicate (6 - (lg_sl [.ref (gB E + 396), .ref (gB E + a1)]).length) Slot.unset).toArray = ls at hl ⊢
  exact w_X1_mostByPairs C G X hk_a1 hl h

set_option maxRecDepth 20000 in
theorem w_X1_firstPartner_33 {r : Int32} {σ : Mem} (C : Cx p s m args meth c cX1_firstPartner (some .int) 5 RX1) (G : Gf E s) : ∀ (f : Nat) {a1 : Nat} {x2 : Int32} {x3 : Int32} {x4 : Int32} {ls : Array Slot} {H : Heap} {locs : List Loc}, Hx E σ s H locs → kd a1 = 2 → lv_has ls 5 [(0, .ref (gB E + 396)), (1, .ref (gB E + a1)), (2, .int x2), (3, .int x3), (4, .int x4)] → X1_firstPartner_33 σ f a1 x2 x3 x4 = some r → W p l e (RM 5) s m args below meth c H locs 0 0 (QI E below args s r σ) (F0 m 33 ls []) := by
  intro f
  induction f with
  | zero =>
    intro a1 x2 x3 x4 ls H locs X hk_a1 hl h
    rw [X1_firstPartner_33] at h
    cases h
  | succ f ih =>
    intro a1 x2 x3 x4 ls H locs X hk_a1 hl h
    rw [X1_firstPartner_33] at h
    refine lv_iload C.1 C.2.1 dX1_firstPartner_33 (lv_at hl 4 rfl) ?_
    refine lv_aload_n C.1 C.2.1 dX1_firstPartner_35 rfl (lv_at hl 1 rfl) ?_
    refine gfX7 C G X (k := a1) hk_a1 1 (v := .int (σ a1 1)) rfl rfl (by decide) k_204 rfl dX1_firstPartner_36 ?_
    refine lv_icmp_ge (tgt := 91) C.1 C.2.1 dX1_firstPartner_39 (by decide) (fun c39 => ?_) (fun c39 => ?_)
    · replace h := ipos c39 h
      refine lv_iconst (v := -1) C.1 C.2.1 dX1_firstPartner_91 (by decide) ?_
      rw [← Option.some.inj h]
      exact rtI C X dX1_firstPartner_92
    · replace h := ineg c39 h
      refine lv_iload_n C.1 C.2.1 dX1_firstPartner_42 rfl (lv_at hl 2 rfl) ?_
      refine lv_iload C.1 C.2.1 dX1_firstPartner_43 (lv_at hl 4 rfl) ?_
      obtain ⟨r45, e45, h⟩ := bnd h
      refine afI X (runN C G X q_X11_hasBit k_509 nw_15 (c_X11_hasBit l E e45) rfl hl.1 rfl (Nat.le_of_ble_eq_true rfl) ⟨Nat.le_of_ble_eq_true rfl, Nat.le_of_ble_eq_true rfl⟩ ⟨Nat.le_of_ble_eq_true rfl, Nat.le_of_ble_eq_true rfl⟩ dX1_firstPartner_45) (fun H locs X => ?_)
      refine lv_if_eq (tgt := 85) C.1 C.2.1 dX1_firstPartner_48 (by decide) (fun c48 => ?_) (fun c48 => ?_)
      · replace h := ipos c48 h
        refine lv_iinc (v := (x4 + 1)) (lv' := [(4, .int (x4 + 1)), (0, .ref (gB E + 396)), (1, .ref (gB E + a1)), (2, .int x2), (3, .int x3)]) C.1 C.2.1 dX1_firstPartner_85 hl (k := 4) rfl rfl (by decide) rfl (fun ls hl => ?_)
        refine lv_goto (tgt := 33) C.1 C.2.1 dX1_firstPartner_88 (by decide) ?_
        exact ih X hk_a1 (lv_sub hl [1, 2, 3, 4, 0] rfl) h
      · replace h := ineg c48 h
        refine lv_aload_n C.1 C.2.1 dX1_firstPartner_51 rfl (lv_at hl 0 rfl) ?_
        refine lv_aload_n C.1 C.2.1 dX1_firstPartner_52 rfl (lv_at hl 1 rfl) ?_
        refine lv_iload_n C.1 C.2.1 dX1_firstPartner_53 rfl (lv_at hl 3 rfl) ?_
        refine lv_iload C.1 C.2.1 dX1_firstPartner_54 (lv_at hl 4 rfl) ?_
        obtain ⟨r56, e56, h⟩ := bnd h
        refine afI X (runV C G X q_X1_arePair k_1524 kp_22 k_1522 (rcX1 G X kd_396) (c_X1_arePair l E hk_a1 e56) rfl hl.1 rfl (Nat.le_of_ble_eq_true rfl) ⟨Nat.le_of_ble_eq_true rfl, Nat.le_of_ble_eq_true rfl⟩ ⟨Nat.le_of_ble_eq_true rfl, Nat.le_of_ble_eq_true rfl⟩ dX1_firstPartner_56) (fun H locs X => ?_)
        refine lv_if_eq (tgt := 85) C.1 C.2.1 dX1_firstPartner_59 (by decide) (fun c59 => ?_) (fun c59 => ?_)
        · replace h := ipos c59 h
          refine lv_iinc (v := (x4 + 1)) (lv' := [(4, .int (x4 + 1)), (0, .ref (gB E + 396)), (1, .ref (gB E + a1)), (2, .int x2), (3, .int x3)]) C.1 C.2.1 dX1_firstPartner_85 hl (k := 4) rfl rfl (by decide) rfl (fun ls hl => ?_)
          refine lv_goto (tgt := 33) C.1 C.2.1 dX1_firstPartner_88 (by decide) ?_
          exact ih X hk_a1 (lv_sub hl [1, 2, 3, 4, 0] rfl) h
        · replace h := ineg c59 h
          refine lv_aload_n C.1 C.2.1 dX1_firstPartner_62 rfl (lv_at hl 0 rfl) ?_
          refine lv_aload_n C.1 C.2.1 dX1_firstPartner_63 rfl (lv_at hl 1 rfl) ?_
          refine lv_iload_n C.1 C.2.1 dX1_firstPartner_64 rfl (lv_at hl 2 rfl) ?_
          refine lv_iload_n C.1 C.2.1 dX1_firstPartner_65 rfl (lv_at hl 3 rfl) ?_
          refine lv_iload C.1 C.2.1 dX1_firstPartner_66 (lv_at hl 4 rfl) ?_
          obtain ⟨r68, e68, h⟩ := bnd h
          refine afI X (runV C G X q_X1_mostWith k_1528 kp_23 k_1526 (rcX1 G X kd_396) (c_X1_mostWith l E hk_a1 e68) rfl hl.1 rfl (Nat.le_of_ble_eq_true rfl) ⟨Nat.le_of_ble_eq_true rfl, Nat.le_of_ble_eq_true rfl⟩ ⟨Nat.le_of_ble_eq_true rfl, Nat.le_of_ble_eq_true rfl⟩ dX1_firstPartner_68) (fun H locs X => ?_)
          refine lv_aload_n C.1 C.2.1 dX1_firstPartner_71 rfl (lv_at hl 0 rfl) ?_
          refine gfX1 C G X (k := 396) kd_396 0 (v := .ref (gB E + 397)) rfl rfl (by decide) k_401 rfl dX1_firstPartner_72 ?_
          refine lv_iload_n C.1 C.2.1 dX1_firstPartner_75 rfl (lv_at hl 2 rfl) ?_
          obtain ⟨r76, e76, h⟩ := bnd h
          refine afI X (runV C G X q_X6_get k_498 k_499 k_627 (rcX6 G X kd_397) (c_X6_get l E kd_397 e76) rfl hl.1 rfl (Nat.le_of_ble_eq_true rfl) ⟨Nat.le_of_ble_eq_true rfl, Nat.le_of_ble_eq_true rfl⟩ ⟨Nat.le_of_ble_eq_true rfl, Nat.le_of_ble_eq_true rfl⟩ dX1_firstPartner_76) (fun H locs X => ?_)
          refine lv_icmp_ne (tgt := 85) C.1 C.2.1 dX1_firstPartner_79 (by decide) (fun c79 => ?_) (fun c79 => ?_)
          · replace h := ineg c79 h
            refine lv_iinc (v := (x4 + 1)) (lv' := [(4, .int (x4 + 1)), (0, .ref (gB E + 396)), (1, .ref (gB E + a1)), (2, .int x2), (3, .int x3)]) C.1 C.2.1 dX1_firstPartner_85 hl (k := 4) rfl rfl (by decide) rfl (fun ls hl => ?_)
            refine lv_goto (tgt := 33) C.1 C.2.1 dX1_firstPartner_88 (by decide) ?_
            exact ih X hk_a1 (lv_sub hl [1, 2, 3, 4, 0] rfl) h
          · replace h := ipos c79 h
            refine lv_iload C.1 C.2.1 dX1_firstPartner_82 (lv_at hl 4 rfl) ?_
            rw [← Option.some.inj h]
            exact rtI C X dX1_firstPartner_84

set_option maxRecDepth 20000 in
theorem w_X1_firstPartner {r : Int32} {σ : Mem} {a1 : Nat} {x2 : Int32} {x3 : Int32} {ls : Array Slot} {H : Heap} {locs : List Loc} (C : Cx p s m args meth c cX1_firstPartner (some .int) 5 RX1) (G : Gf E s) (X : Hx E σ s H locs) (hk_a1 : kd a1 = 2) (hl : lv_has ls 5 [(0, .ref (gB E + 396)), (1, .ref (gB E + a1)), (2, .int x2), (3, .int x3)]) (h : X1_firstPartner σ a1 x2 x3 = some r) : W p l e (RM 5) s m args below meth c H locs 0 0 (QI E below args s r σ) (F0 m 0 ls []) := by
  rw [X1_firstPartner] at h
  refine lv_aload_n C.1 C.2.1 dX1_firstPartner_0 rfl (lv_at hl 0 rfl) ?_
  refine gfX1 C G X (k := 396) kd_396 0 (v := .ref (gB E + 397)) rfl rfl (by decide) k_401 rfl dX1_firstPartner_1 ?_
  refine lv_iload_n C.1 C.2.1 dX1_firstPartner_4 rfl (lv_at hl 2 rfl) ?_
  refine lv_iload_n C.1 C.2.1 dX1_firstPartner_5 rfl (lv_at hl 3 rfl) ?_
  obtain ⟨r6, e6, h⟩ := bnd h
  refine afI X (runN C G X q_X11_bit k_506 nw_11 (c_X11_bit l E e6) rfl hl.1 rfl (Nat.le_of_ble_eq_true rfl) ⟨Nat.le_of_ble_eq_true rfl, Nat.le_of_ble_eq_true rfl⟩ ⟨Nat.le_of_ble_eq_true rfl, Nat.le_of_ble_eq_true rfl⟩ dX1_firstPartner_6) (fun H locs X => ?_)
  refine lv_iconst (v := -1) C.1 C.2.1 dX1_firstPartner_9 (by decide) ?_
  refine lv_ixor C.1 C.2.1 dX1_firstPartner_10 ?_
  refine lv_iand C.1 C.2.1 dX1_firstPartner_11 ?_
  obtain ⟨r12, e12, h⟩ := bnd h
  refine afI X (runV C G X q_X6_get k_498 k_499 k_627 (rcX6 G X kd_397) (c_X6_get l E kd_397 e12) rfl hl.1 rfl (Nat.le_of_ble_eq_true rfl) ⟨Nat.le_of_ble_eq_true rfl, Nat.le_of_ble_eq_true rfl⟩ ⟨Nat.le_of_ble_eq_true rfl, Nat.le_of_ble_eq_true rfl⟩ dX1_firstPartner_12) (fun H locs X => ?_)
  refine lv_aload_n C.1 C.2.1 dX1_firstPartner_15 rfl (lv_at hl 0 rfl) ?_
  refine gfX1 C G X (k := 396) kd_396 0 (v := .ref (gB E + 397)) rfl rfl (by decide) k_401 rfl dX1_firstPartner_16 ?_
  refine lv_iload_n C.1 C.2.1 dX1_firstPartner_19 rfl (lv_at hl 2 rfl) ?_
  obtain ⟨r20, e20, h⟩ := bnd h
  refine afI X (runV C G X q_X6_get k_498 k_499 k_627 (rcX6 G X kd_397) (c_X6_get l E kd_397 e20) rfl hl.1 rfl (Nat.le_of_ble_eq_true rfl) ⟨Nat.le_of_ble_eq_true rfl, Nat.le_of_ble_eq_true rfl⟩ ⟨Nat.le_of_ble_eq_true rfl, Nat.le_of_ble_eq_true rfl⟩ dX1_firstPartner_20) (fun H locs X => ?_)
  refine lv_icmp_ne (tgt := 28) C.1 C.2.1 dX1_firstPartner_23 (by decide) (fun c23 => ?_) (fun c23 => ?_)
  · replace h := ineg c23 h
    refine lv_iload_n C.1 C.2.1 dX1_firstPartner_28 rfl (lv_at hl 3 rfl) ?_
    refine lv_iconst (v := 1) C.1 C.2.1 dX1_firstPartner_29 (by decide) ?_
    refine lv_iadd C.1 C.2.1 dX1_firstPartner_30 ?_
    refine lv_istore (lv' := [(4, .int (x3 + (1 : Int32))), (0, .ref (gB E + 396)), (1, .ref (gB E + a1)), (2, .int x2), (3, .int x3)]) C.1 C.2.1 dX1_firstPartner_31 hl (by decide) rfl (fun ls hl => ?_)
    exact w_X1_firstPartner_33 C G FU X hk_a1 (lv_sub hl [1, 2, 3, 4, 0] rfl) h
  · replace h := ipos c23 h
    refine lv_iconst (v := -1) C.1 C.2.1 dX1_firstPartner_26 (by decide) ?_
    rw [← Option.some.inj h]
    exact rtI C X dX1_firstPartner_27

theorem c_X1_firstPartner (l : Launch) (E : GE) {σ : Mem} {a1 : Nat} {x2 : Int32} {x3 : Int32} (hk_a1 : kd a1 = 2) {r : Int32} (h : X1_firstPartner σ a1 x2 x3 = some r) : CtI l E yX1_firstPartner cX1_firstPartner 5 .int 5 [.ref (gB E + 396), .ref (gB E + a1), .int x2, .int x3] σ r σ := by
  refine Met.ofW (cc := cX1_firstPartner) (maxL := 5) (ret := (some .int)) (by decide) rfl ?_
  intro p e s m args below meth c s₁ B hml hv
  obtain ⟨rfl, G, X⟩ := start hv
  have C := cxof B hml
  have hl := lv_entry [.ref (gB E + 396), .ref (gB E + a1), .int x2, .int x3] (n := 5) (Nat.le_of_ble_eq_true rfl)
  rw [lg_entry_eq]
  generalize (lg_sl [.ref (gB E + 396), .ref (gB E + a1), .int x2, .int x3] ++ List.replicate (5 - (lg_sl [.ref (gB E + 396), .ref (gB E + a1), .int x2, .int x3]).length) Slot.unset).toArray = ls at hl ⊢
  exact w_X1_firstPartner C G X hk_a1 hl h

set_option maxRecDepth 20000 in
theorem w_X1_partnerOf_19 {r : (Int32 × Mem)} (C : Cx p s m args meth c cX1_partnerOf (some .int) 6 RX1) (G : Gf E s) : ∀ (f : Nat) {a1 : Nat} {x2 : Int32} {x3 : Int32} {x4 : Int32} {σ : Mem} {ls : Array Slot} {H : Heap} {locs : List Loc}, Hx E σ s H locs → kd a1 = 2 → lv_has ls 6 [(0, .ref (gB E + 396)), (1, .ref (gB E + a1)), (2, .int x2), (3, .int x3), (4, .int x4)] → X1_partnerOf_19 f a1 x2 x3 x4 σ = some r → W p l e (RM 6) s m args below meth c H locs 0 0 (QI E below args s r.1 r.2) (F0 m 19 ls []) := by
  intro f
  induction f with
  | zero =>
    intro a1 x2 x3 x4 σ ls H locs X hk_a1 hl h
    rw [X1_partnerOf_19] at h
    cases h
  | succ f ih =>
    intro a1 x2 x3 x4 σ ls H locs X hk_a1 hl h
    rw [X1_partnerOf_19] at h
    refine lv_iload C.1 C.2.1 dX1_partnerOf_19 (lv_at hl 4 rfl) ?_
    refine lv_aload_n C.1 C.2.1 dX1_partnerOf_21 rfl (lv_at hl 1 rfl) ?_
    refine gfX7 C G X (k := a1) hk_a1 1 (v := .int (σ a1 1)) rfl rfl (by decide) k_204 rfl dX1_partnerOf_22 ?_
    refine lv_icmp_ge (tgt := 97) C.1 C.2.1 dX1_partnerOf_25 (by decide) (fun c25 => ?_) (fun c25 => ?_)
    · replace h := ipos c25 h
      refine lv_iconst (v := -1) C.1 C.2.1 dX1_partnerOf_97 (by decide) ?_
      rw [← Option.some.inj h]
      exact rtI C X dX1_partnerOf_98
    · replace h := ineg c25 h
      refine lv_iload_n C.1 C.2.1 dX1_partnerOf_28 rfl (lv_at hl 3 rfl) ?_
      refine lv_iload C.1 C.2.1 dX1_partnerOf_29 (lv_at hl 4 rfl) ?_
      obtain ⟨r31, e31, h⟩ := bnd h
      refine afI X (runN C G X q_X11_hasBit k_509 nw_15 (c_X11_hasBit l E e31) rfl hl.1 rfl (Nat.le_of_ble_eq_true rfl) ⟨Nat.le_of_ble_eq_true rfl, Nat.le_of_ble_eq_true rfl⟩ ⟨Nat.le_of_ble_eq_true rfl, Nat.le_of_ble_eq_true rfl⟩ dX1_partnerOf_31) (fun H locs X => ?_)
      refine lv_if_eq (tgt := 91) C.1 C.2.1 dX1_partnerOf_34 (by decide) (fun c34 => ?_) (fun c34 => ?_)
      · replace h := ipos c34 h
        refine lv_iinc (v := (x4 + 1)) (lv' := [(4, .int (x4 + 1)), (0, .ref (gB E + 396)), (1, .ref (gB E + a1)), (2, .int x2), (3, .int x3)]) C.1 C.2.1 dX1_partnerOf_91 hl (k := 4) rfl rfl (by decide) rfl (fun ls hl => ?_)
        refine lv_goto (tgt := 19) C.1 C.2.1 dX1_partnerOf_94 (by decide) ?_
        exact ih X hk_a1 (lv_sub hl [1, 2, 3, 4, 0] rfl) h
      · replace h := ineg c34 h
        refine lv_aload_n C.1 C.2.1 dX1_partnerOf_37 rfl (lv_at hl 0 rfl) ?_
        refine lv_aload_n C.1 C.2.1 dX1_partnerOf_38 rfl (lv_at hl 1 rfl) ?_
        refine lv_iload_n C.1 C.2.1 dX1_partnerOf_39 rfl (lv_at hl 3 rfl) ?_
        refine lv_iload C.1 C.2.1 dX1_partnerOf_40 (lv_at hl 4 rfl) ?_
        obtain ⟨r42, e42, h⟩ := bnd h
        refine afI X (runV C G X q_X1_firstPartner k_1538 kp_24 k_1536 (rcX1 G X kd_396) (c_X1_firstPartner l E hk_a1 e42) rfl hl.1 rfl (Nat.le_of_ble_eq_true rfl) ⟨Nat.le_of_ble_eq_true rfl, Nat.le_of_ble_eq_true rfl⟩ ⟨Nat.le_of_ble_eq_true rfl, Nat.le_of_ble_eq_true rfl⟩ dX1_partnerOf_42) (fun H locs X => ?_)
        refine lv_istore (lv' := [(5, .int r42), (0, .ref (gB E + 396)), (1, .ref (gB E + a1)), (2, .int x2), (3, .int x3), (4, .int x4)]) C.1 C.2.1 dX1_partnerOf_45 hl (by decide) rfl (fun ls hl => ?_)
        refine lv_iload C.1 C.2.1 dX1_partnerOf_47 (lv_at hl 5 rfl) ?_
        refine lv_iload_n C.1 C.2.1 dX1_partnerOf_49 rfl (lv_at hl 3 rfl) ?_
        refine lv_icmp_ne (tgt := 56) C.1 C.2.1 dX1_partnerOf_50 (by decide) (fun c50 => ?_) (fun c50 => ?_)
        · replace h := ineg c50 h
          refine lv_iload C.1 C.2.1 dX1_partnerOf_56 (lv_at hl 0 rfl) ?_
          refine lv_iload_n C.1 C.2.1 dX1_partnerOf_58 rfl (lv_at hl 3 rfl) ?_
          refine lv_icmp_ne (tgt := 65) C.1 C.2.1 dX1_partnerOf_59 (by decide) (fun c59 => ?_) (fun c59 => ?_)
          · replace h := ineg c59 h
            refine lv_iload_n C.1 C.2.1 dX1_partnerOf_65 rfl (lv_at hl 4 rfl) ?_
            refine lv_iload C.1 C.2.1 dX1_partnerOf_66 (lv_at hl 5 rfl) ?_
            obtain ⟨r68, e68, h⟩ := bnd h
            refine afI X (runN C G X q_X11_bit k_506 nw_11 (c_X11_bit l E e68) rfl hl.1 rfl (Nat.le_of_ble_eq_true rfl) ⟨Nat.le_of_ble_eq_true rfl, Nat.le_of_ble_eq_true rfl⟩ ⟨Nat.le_of_ble_eq_true rfl, Nat.le_of_ble_eq_true rfl⟩ dX1_partnerOf_68) (fun H locs X => ?_)
            refine lv_iconst (v := -1) C.1 C.2.1 dX1_partnerOf_71 (by decide) ?_
            refine lv_ixor C.1 C.2.1 dX1_partnerOf_72 ?_
            refine lv_iand C.1 C.2.1 dX1_partnerOf_73 ?_
            refine lv_istore_n (lv' := [(3, .int (x3 &&& (r68 ^^^ (-1 : Int32)))), (5, .int r42), (0, .ref (gB E + 396)), (1, .ref (gB E + a1)), (2, .int x2), (4, .int x4)]) C.1 C.2.1 dX1_partnerOf_74 rfl hl (by decide) rfl (fun ls hl => ?_)
            refine lv_iload C.1 C.2.1 dX1_partnerOf_75 (lv_at hl 1 rfl) ?_
            refine lv_iconst (v := -1) C.1 C.2.1 dX1_partnerOf_77 (by decide) ?_
            refine lv_icmp_eq (tgt := 91) C.1 C.2.1 dX1_partnerOf_78 (by decide) (fun c78 => ?_) (fun c78 => ?_)
            · replace h := ipos c78 h
              refine lv_iinc (v := (x4 + 1)) (lv' := [(4, .int (x4 + 1)), (3, .int (x3 &&& (r68 ^^^ (-1 : Int32)))), (5, .int r42), (0, .ref (gB E + 396)), (1, .ref (gB E + a1)), (2, .int x2)]) C.1 C.2.1 dX1_partnerOf_91 hl (k := 5) rfl rfl (by decide) rfl (fun ls hl => ?_)
              refine lv_goto (tgt := 19) C.1 C.2.1 dX1_partnerOf_94 (by decide) ?_
              exact ih X hk_a1 (lv_sub hl [3, 4, 5, 1, 0] rfl) h
            · replace h := ineg c78 h
              refine lv_iload_n C.1 C.2.1 dX1_partnerOf_81 rfl (lv_at hl 0 rfl) ?_
              refine lv_iload C.1 C.2.1 dX1_partnerOf_82 (lv_at hl 1 rfl) ?_
              obtain ⟨r84, e84, h⟩ := bnd h
              refine afI X (runN C G X q_X11_bit k_506 nw_11 (c_X11_bit l E e84) rfl hl.1 rfl (Nat.le_of_ble_eq_true rfl) ⟨Nat.le_of_ble_eq_true rfl, Nat.le_of_ble_eq_true rfl⟩ ⟨Nat.le_of_ble_eq_true rfl, Nat.le_of_ble_eq_true rfl⟩ dX1_partnerOf_84) (fun H locs X => ?_)
              refine lv_iconst (v := -1) C.1 C.2.1 dX1_partnerOf_87 (by decide) ?_
              refine lv_ixor C.1 C.2.1 dX1_partnerOf_88 ?_
              refine lv_iand C.1 C.2.1 dX1_partnerOf_89 ?_
              obtain ⟨v90, e90, h⟩ := bnd h
              rw [Option.some.inj e90]
              refine lv_istore_n (lv' := [(3, .int v90), (5, .int r42), (0, .ref (gB E + 396)), (1, .ref (gB E + a1)), (2, .int x2), (4, .int x4)]) C.1 C.2.1 dX1_partnerOf_90 rfl hl (by decide) rfl (fun ls hl => ?_)
              refine lv_iinc (v := (x4 + 1)) (lv' := [(4, .int (x4 + 1)), (3, .int v90), (5, .int r42), (0, .ref (gB E + 396)), (1, .ref (gB E + a1)), (2, .int x2)]) C.1 C.2.1 dX1_partnerOf_91 hl (k := 5) rfl rfl (by decide) rfl (fun ls hl => ?_)
              refine lv_goto (tgt := 19) C.1 C.2.1 dX1_partnerOf_94 (by decide) ?_
              exact ih X hk_a1 (lv_sub hl [3, 4, 5, 1, 0] rfl) h
          · replace h := ipos c59 h
            refine lv_iload C.1 C.2.1 dX1_partnerOf_62 (lv_at hl 5 rfl) ?_
            rw [← Option.some.inj h]
            exact rtI C X dX1_partnerOf_64
        · replace h := ipos c50 h
          refine lv_iload C.1 C.2.1 dX1_partnerOf_53 (lv_at hl 0 rfl) ?_
          rw [← Option.some.inj h]
          exact rtI C X dX1_partnerOf_55

set_option maxRecDepth 20000 in
theorem w_X1_partnerOf {r : (Int32 × Mem)} {σ : Mem} {a1 : Nat} {x2 : Int32} {ls : Array Slot} {H : Heap} {locs : List Loc} (C : Cx p s m args meth c cX1_partnerOf (some .int) 6 RX1) (G : Gf E s) (X : Hx E σ s H locs) (hk_a1 : kd a1 = 2) (hl : lv_has ls 6 [(0, .ref (gB E + 396)), (1, .ref (gB E + a1)), (2, .int x2)]) (h : X1_partnerOf a1 x2 σ = some r) : W p l e (RM 6) s m args below meth c H locs 0 0 (QI E below args s r.1 r.2) (F0 m 0 ls []) := by
  rw [X1_partnerOf] at h
  refine lv_aload_n C.1 C.2.1 dX1_partnerOf_0 rfl (lv_at hl 0 rfl) ?_
  refine lv_aload_n C.1 C.2.1 dX1_partnerOf_1 rfl (lv_at hl 1 rfl) ?_
  obtain ⟨r2, σ2, e2, h⟩ := bnd2 h
  refine afI (r0 := r2) (σ' := σ2) X (runV C G X q_X1_mostByPairs k_1518 k_1519 k_1535 (rcX1 G X kd_396) (c_X1_mostByPairs l E hk_a1 e2) rfl hl.1 rfl (Nat.le_of_ble_eq_true rfl) ⟨Nat.le_of_ble_eq_true rfl, Nat.le_of_ble_eq_true rfl⟩ ⟨Nat.le_of_ble_eq_true rfl, Nat.le_of_ble_eq_true rfl⟩ dX1_partnerOf_2) (fun H locs X => ?_)
  refine lv_pop C.1 C.2.1 dX1_partnerOf_5 rfl ?_
  refine lv_aload_n C.1 C.2.1 dX1_partnerOf_6 rfl (lv_at hl 1 rfl) ?_
  refine gfX7 C G X (k := a1) hk_a1 1 (v := .int (σ2 a1 1)) rfl rfl (by decide) k_204 rfl dX1_partnerOf_7 ?_
  obtain ⟨r10, e10, h⟩ := bnd h
  refine afI X (runN C G X q_X11_bit k_506 nw_11 (c_X11_bit l E e10) rfl hl.1 rfl (Nat.le_of_ble_eq_true rfl) ⟨Nat.le_of_ble_eq_true rfl, Nat.le_of_ble_eq_true rfl⟩ ⟨Nat.le_of_ble_eq_true rfl, Nat.le_of_ble_eq_true rfl⟩ dX1_partnerOf_10) (fun H locs X => ?_)
  refine lv_iconst (v := 1) C.1 C.2.1 dX1_partnerOf_13 (by decide) ?_
  refine lv_isub C.1 C.2.1 dX1_partnerOf_14 ?_
  refine lv_istore_n (lv' := [(3, .int (r10 - (1 : Int32))), (0, .ref (gB E + 396)), (1, .ref (gB E + a1)), (2, .int x2)]) C.1 C.2.1 dX1_partnerOf_15 rfl hl (by decide) rfl (fun ls hl => ?_)
  refine lv_iconst (v := 0) C.1 C.2.1 dX1_partnerOf_16 (by decide) ?_
  refine lv_istore (lv' := [(4, .int (0 : Int32)), (3, .int (r10 - (1 : Int32))), (0, .ref (gB E + 396)), (1, .ref (gB E + a1)), (2, .int x2)]) C.1 C.2.1 dX1_partnerOf_17 hl (by decide) rfl (fun ls hl => ?_)
  exact w_X1_partnerOf_19 C G FU X hk_a1 (lv_sub hl [2, 3, 4, 1, 0] rfl) h

theorem c_X1_partnerOf (l : Launch) (E : GE) {σ : Mem} {a1 : Nat} {x2 : Int32} (hk_a1 : kd a1 = 2) {r : (Int32 × Mem)} (h : X1_partnerOf a1 x2 σ = some r) : CtI l E yX1_partnerOf cX1_partnerOf 6 .int 6 [.ref (gB E + 396), .ref (gB E + a1), .int x2] σ r.1 r.2 := by
  refine Met.ofW (cc := cX1_partnerOf) (maxL := 6) (ret := (some .int)) (by decide) rfl ?_
  intro p e s m args below meth c s₁ B hml hv
  obtain ⟨rfl, G, X⟩ := start hv
  have C := cxof B hml
  have hl := lv_entry [.ref (gB E + 396), .ref (gB E + a1), .int x2] (n := 6) (Nat.le_of_ble_eq_true rfl)
  rw [lg_entry_eq]
  generalize (lg_sl [.ref (gB E + 396), .ref (gB E + a1), .int x2] ++ List.replicate (6 - (lg_sl [.ref (gB E + 396), .ref (gB E + a1), .int x2]).length) Slot.unset).toArray = ls at hl ⊢
  exact w_X1_partnerOf C G X hk_a1 hl h

set_option maxRecDepth 20000 in
theorem w_X11_pairs {r : ((Int32 ⊕ Nat) × Mem)} {σ : Mem} {x1 : Int32} {ls : Array Slot} {H : Heap} {locs : List Loc} (C : Cx p s m args meth c cX11_pairs (some .int) 2 RX11) (G : Gf E s) (T0 : ∀ x ∈ c.exceptionTable.toList, False) (hT : l.stackTraces = false) (X : Hx E σ s H locs) (hl : lv_has ls 2 [(0, .ref (gB E + 0)), (1, .int x1)]) (h : X11_pairs x1 σ = some r) : W p l e (RX 13 1) s m args below meth c H locs 0 0 (QX E below args s 1 r.1 r.2) (F0 m 0 ls []) := by
  rw [X11_pairs] at h
  refine lv_iload_n C.1 C.2.1 dX11_pairs_0 rfl (lv_at hl 1 rfl) ?_
  refine lv_iconst (v := -1) C.1 C.2.1 dX11_pairs_1 (by decide) ?_
  refine lv_icmp_ne (tgt := 17) C.1 C.2.1 dX11_pairs_2 (by decide) (fun c2 => ?_) (fun c2 => ?_)
  · replace h := ineg c2 h
    refine lv_aload_n C.1 C.2.1 dX11_pairs_17 rfl (lv_at hl 0 rfl) ?_
    refine lv_iload_n C.1 C.2.1 dX11_pairs_18 rfl (lv_at hl 1 rfl) ?_
    rcases bndx h with ⟨r19, e19, h⟩ | ⟨x19_, e19, h⟩
    · refine axV X (runXV C G X q_X11_needWalker k_1216 kp_12 k_1214 (rcX11 G X kd_0) (c_X11_needWalker l E hT e19) rfl hl.1 rfl (Nat.le_of_ble_eq_true rfl) ⟨Nat.le_of_ble_eq_true rfl, Nat.le_of_ble_eq_true rfl⟩ ⟨Nat.le_of_ble_eq_true rfl, Nat.le_of_ble_eq_true rfl⟩ dX11_pairs_19) (fun r9 H locs er X => ?_) (fun x9 H locs q9 ce er X hz hv hcl => nomatch er)
      refine lv_aload_n C.1 C.2.1 dX11_pairs_22 rfl (lv_at hl 0 rfl) ?_
      refine gfX11 C G X (k := 0) kd_0 11 (v := .ref (gB E + 396)) rfl rfl (by decide) k_416 rfl dX11_pairs_23 ?_
      refine lv_aload_n C.1 C.2.1 dX11_pairs_26 rfl (lv_at hl 0 rfl) ?_
      refine gfX11 C G X (k := 0) kd_0 1 (v := .ref (gB E + 9)) rfl rfl (by decide) k_406 rfl dX11_pairs_27 ?_
      refine lv_iload_n C.1 C.2.1 dX11_pairs_30 rfl (lv_at hl 1 rfl) ?_
      obtain ⟨r31, σ31, e31, h⟩ := bnd2 h
      refine afI (r0 := r31) (σ' := σ31) X (runV C G X q_X1_partnerOf k_1532 k_1533 k_1531 (rcX1 G X kd_396) (c_X1_partnerOf l E kd_9 e31) rfl hl.1 rfl (Nat.le_of_ble_eq_true rfl) ⟨Nat.le_of_ble_eq_true rfl, Nat.le_of_ble_eq_true rfl⟩ ⟨Nat.le_of_ble_eq_true rfl, Nat.le_of_ble_eq_true rfl⟩ dX11_pairs_31) (fun H locs X => ?_)
      rw [← Option.some.inj h]
      exact vx_ret (rtxI C X dX11_pairs_34)
    · refine axV X (runXV C G X q_X11_needWalker k_1216 kp_12 k_1214 (rcX11 G X kd_0) (c_X11_needWalker l E hT e19) rfl hl.1 rfl (Nat.le_of_ble_eq_true rfl) ⟨Nat.le_of_ble_eq_true rfl, Nat.le_of_ble_eq_true rfl⟩ ⟨Nat.le_of_ble_eq_true rfl, Nat.le_of_ble_eq_true rfl⟩ dX11_pairs_19) (fun r9 H locs er X => nomatch er) (fun x9 H locs q9 ce er X hz hv hcl => ?_)
      rw [← Sum.inr.inj er] at hcl
      rw [← Option.some.inj h]
      exact xout C X T0 hz hv hcl (Nat.le_of_ble_eq_true rfl) (Nat.le_of_ble_eq_true rfl)
  · replace h := ipos c2 h
    refine lv_aload_n C.1 C.2.1 dX11_pairs_5 rfl (lv_at hl 0 rfl) ?_
    refine gfX11 C G X (k := 0) kd_0 11 (v := .ref (gB E + 396)) rfl rfl (by decide) k_416 rfl dX11_pairs_6 ?_
    refine lv_aload_n C.1 C.2.1 dX11_pairs_9 rfl (lv_at hl 0 rfl) ?_
    refine gfX11 C G X (k := 0) kd_0 1 (v := .ref (gB E + 9)) rfl rfl (by decide) k_406 rfl dX11_pairs_10 ?_
    obtain ⟨r13, σ13, e13, h⟩ := bnd2 h
    refine afI (r0 := r13) (σ' := σ13) X (runV C G X q_X1_mostByPairs k_1518 k_1519 k_1517 (rcX1 G X kd_396) (c_X1_mostByPairs l E kd_9 e13) rfl hl.1 rfl (Nat.le_of_ble_eq_true rfl) ⟨Nat.le_of_ble_eq_true rfl, Nat.le_of_ble_eq_true rfl⟩ ⟨Nat.le_of_ble_eq_true rfl, Nat.le_of_ble_eq_true rfl⟩ dX11_pairs_13) (fun H locs X => ?_)
    refine W.widen (k := 1) (n := 6) (Nat.le_of_ble_eq_true rfl) (Nat.le_of_ble_eq_true rfl) ?_
    rw [← Option.some.inj h]
    exact vx_ret (rtxI C X dX11_pairs_16)

theorem c_X11_pairs (l : Launch) (E : GE) (hT : l.stackTraces = false) {σ : Mem} {x1 : Int32} {r : ((Int32 ⊕ Nat) × Mem)} (h : X11_pairs x1 σ = some r) : CtX l E yX11_pairs cX11_pairs 2 .int 13 1 [.ref (gB E + 0), .int x1] σ r.1 r.2 := by
  refine vx_ofW (cc := cX11_pairs) (maxL := 2) (ret := (some .int)) (by decide) rfl ?_
  intro p e s m args below meth c s₁ B hml T0 hv
  obtain ⟨rfl, G, X⟩ := start hv
  have C := cxof B hml
  have hl := lv_entry [.ref (gB E + 0), .int x1] (n := 2) (Nat.le_of_ble_eq_true rfl)
  rw [lg_entry_eq]
  generalize (lg_sl [.ref (gB E + 0), .int x1] ++ List.replicate (2 - (lg_sl [.ref (gB E + 0), .int x1]).length) Slot.unset).toArray = ls at hl ⊢
  exact w_X11_pairs C G T0 hT X hl h

set_option maxRecDepth 20000 in
theorem w_X1_areRows_17 {r : Int32} {σ : Mem} (C : Cx p s m args meth c cX1_areRows (some .boolean) 8 RX1) (G : Gf E s) : ∀ (f : Nat) {a1 : Nat} {x3 : Int32} {x4 : Int32} {ls : Array Slot} {H : Heap} {locs : List Loc}, Hx E σ s H locs → kd a1 = 2 → lv_has ls 8 [(1, .ref (gB E + a1)), (2, .ref (gB E + 1)), (3, .int x3), (4, .int x4)] → X1_areRows_17 σ f a1 x3 x4 = some r → W p l e (RM 3) s m args below meth c H locs 0 0 (QI E below args s r σ) (F0 m 17 ls []) := by
  intro f
  induction f with
  | zero =>
    intro a1 x3 x4 ls H locs X hk_a1 hl h
    rw [X1_areRows_17] at h
    cases h
  | succ f ih =>
    intro a1 x3 x4 ls H locs X hk_a1 hl h
    rw [X1_areRows_17] at h
    refine lv_iload C.1 C.2.1 dX1_areRows_17 (lv_at hl 3 rfl) ?_
    refine lv_iload_n C.1 C.2.1 dX1_areRows_19 rfl (lv_at hl 2 rfl) ?_
    refine lv_icmp_ge (tgt := 105) C.1 C.2.1 dX1_areRows_20 (by decide) (fun c20 => ?_) (fun c20 => ?_)
    · replace h := ipos c20 h
      refine lv_iconst (v := 1) C.1 C.2.1 dX1_areRows_105 (by decide) ?_
      obtain ⟨u106, z106, h⟩ := bnd h
      rw [← Option.some.inj h]
      exact rtZ C X (gb_s z106) dX1_areRows_106
    · replace h := ineg c20 h
      refine lv_aload_n C.1 C.2.1 dX1_areRows_23 rfl (lv_at hl 1 rfl) ?_
      refine lv_iload C.1 C.2.1 dX1_areRows_24 (lv_at hl 3 rfl) ?_
      obtain ⟨r26, e26, h⟩ := bnd h
      refine afI X (runV C G X q_X10_byteAt k_1411 k_1412 k_1551 (rcX10 G X kd_1) (c_X10_byteAt l E e26) rfl hl.1 rfl (Nat.le_of_ble_eq_true rfl) ⟨Nat.le_of_ble_eq_true rfl, Nat.le_of_ble_eq_true rfl⟩ ⟨Nat.le_of_ble_eq_true rfl, Nat.le_of_ble_eq_true rfl⟩ dX1_areRows_26) (fun H locs X => ?_)
      refine lv_istore (lv' := [(5, .int r26), (1, .ref (gB E + a1)), (2, .ref (gB E + 1)), (3, .int x3), (4, .int x4)]) C.1 C.2.1 dX1_areRows_29 hl (by decide) rfl (fun ls hl => ?_)
      refine lv_aload_n C.1 C.2.1 dX1_areRows_31 rfl (lv_at hl 2 rfl) ?_
      refine lv_iload C.1 C.2.1 dX1_areRows_32 (lv_at hl 4 rfl) ?_
      refine lv_iconst (v := 1) C.1 C.2.1 dX1_areRows_34 (by decide) ?_
      refine lv_iadd C.1 C.2.1 dX1_areRows_35 ?_
      obtain ⟨r36, e36, h⟩ := bnd h
      refine afI X (runV C G X q_X10_byteAt k_1411 k_1412 k_1551 (rcX10 G X kd_1) (c_X10_byteAt l E e36) rfl hl.1 rfl (Nat.le_of_ble_eq_true rfl) ⟨Nat.le_of_ble_eq_true rfl, Nat.le_of_ble_eq_true rfl⟩ ⟨Nat.le_of_ble_eq_true rfl, Nat.le_of_ble_eq_true rfl⟩ dX1_areRows_36) (fun H locs X => ?_)
      refine lv_istore (lv' := [(6, .int r36), (5, .int r26), (1, .ref (gB E + a1)), (2, .ref (gB E + 1)), (3, .int x3), (4, .int x4)]) C.1 C.2.1 dX1_areRows_39 hl (by decide) rfl (fun ls hl => ?_)
      refine lv_iload C.1 C.2.1 dX1_areRows_41 (lv_at hl 1 rfl) ?_
      refine lv_aload_n C.1 C.2.1 dX1_areRows_43 rfl (lv_at hl 2 rfl) ?_
      refine gfX7 C G X (k := a1) hk_a1 1 (v := .int (σ a1 1)) rfl rfl (by decide) k_204 rfl dX1_areRows_44 ?_
      refine lv_icmp_ge (tgt := 71) C.1 C.2.1 dX1_areRows_47 (by decide) (fun c47 => ?_) (fun c47 => ?_)
      · replace h := ipos c47 h
        refine lv_iconst (v := 0) C.1 C.2.1 dX1_areRows_71 (by decide) ?_
        obtain ⟨u72, z72, h⟩ := bnd h
        rw [← Option.some.inj h]
        exact rtZ C X (gb_s z72) dX1_areRows_72
      · replace h := ineg c47 h
        refine lv_iload C.1 C.2.1 dX1_areRows_50 (lv_at hl 0 rfl) ?_
        refine lv_aload_n C.1 C.2.1 dX1_areRows_52 rfl (lv_at hl 2 rfl) ?_
        refine gfX7 C G X (k := a1) hk_a1 0 (v := .int (σ a1 0)) rfl rfl (by decide) k_202 rfl dX1_areRows_53 ?_
        refine lv_icmp_ge (tgt := 71) C.1 C.2.1 dX1_areRows_56 (by decide) (fun c56 => ?_) (fun c56 => ?_)
        · replace h := ipos c56 h
          refine lv_iconst (v := 0) C.1 C.2.1 dX1_areRows_71 (by decide) ?_
          obtain ⟨u72, z72, h⟩ := bnd h
          rw [← Option.some.inj h]
          exact rtZ C X (gb_s z72) dX1_areRows_72
        · replace h := ineg c56 h
          refine lv_aload_n C.1 C.2.1 dX1_areRows_59 rfl (lv_at hl 3 rfl) ?_
          refine lv_iload C.1 C.2.1 dX1_areRows_60 (lv_at hl 5 rfl) ?_
          refine lv_iconst (v := 2) C.1 C.2.1 dX1_areRows_62 (by decide) ?_
          refine lv_iadd C.1 C.2.1 dX1_areRows_63 ?_
          obtain ⟨r64, e64, h⟩ := bnd h
          refine afI X (runV C G X q_X10_byteAt k_1411 k_1412 k_1551 (rcX10 G X kd_1) (c_X10_byteAt l E e64) rfl hl.1 rfl (Nat.le_of_ble_eq_true rfl) ⟨Nat.le_of_ble_eq_true rfl, Nat.le_of_ble_eq_true rfl⟩ ⟨Nat.le_of_ble_eq_true rfl, Nat.le_of_ble_eq_true rfl⟩ dX1_areRows_64) (fun H locs X => ?_)
          refine lv_iconst (v := 1) C.1 C.2.1 dX1_areRows_67 (by decide) ?_
          refine lv_icmp_le (tgt := 73) C.1 C.2.1 dX1_areRows_68 (by decide) (fun c68 => ?_) (fun c68 => ?_)
          · replace h := ipos c68 h
            refine lv_aload_n C.1 C.2.1 dX1_areRows_73 rfl (lv_at hl 2 rfl) ?_
            refine gfX7 C G X (k := a1) hk_a1 10 (v := .ref (gB E + (a1 + 3))) rfl rfl (by decide) k_236 rfl dX1_areRows_74 ?_
            refine lv_iload C.1 C.2.1 dX1_areRows_77 (lv_at hl 0 rfl) ?_
            obtain ⟨r79, e79, h⟩ := bnd h
            refine afI X (runV C G X q_X6_get k_498 k_499 k_627 (rcX6 G X (kf_2_3 hk_a1)) (c_X6_get l E (kf_2_3 hk_a1) e79) rfl hl.1 rfl (Nat.le_of_ble_eq_true rfl) ⟨Nat.le_of_ble_eq_true rfl, Nat.le_of_ble_eq_true rfl⟩ ⟨Nat.le_of_ble_eq_true rfl, Nat.le_of_ble_eq_true rfl⟩ dX1_areRows_79) (fun H locs X => ?_)
            refine lv_istore (lv' := [(7, .int r79), (6, .int r36), (5, .int r26), (1, .ref (gB E + a1)), (2, .ref (gB E + 1)), (3, .int x3), (4, .int x4)]) C.1 C.2.1 dX1_areRows_82 hl (by decide) rfl (fun ls hl => ?_)
            refine lv_iload C.1 C.2.1 dX1_areRows_84 (lv_at hl 0 rfl) ?_
            refine lv_iconst (v := -1) C.1 C.2.1 dX1_areRows_86 (by decide) ?_
            refine lv_icmp_eq (tgt := 97) C.1 C.2.1 dX1_areRows_87 (by decide) (fun c87 => ?_) (fun c87 => ?_)
            · replace h := ipos c87 h
              refine lv_iconst (v := 0) C.1 C.2.1 dX1_areRows_97 (by decide) ?_
              obtain ⟨u98, z98, h⟩ := bnd h
              rw [← Option.some.inj h]
              exact rtZ C X (gb_s z98) dX1_areRows_98
            · replace h := ineg c87 h
              refine lv_iload C.1 C.2.1 dX1_areRows_90 (lv_at hl 0 rfl) ?_
              refine lv_iload C.1 C.2.1 dX1_areRows_92 (lv_at hl 2 rfl) ?_
              refine lv_icmp_ne (tgt := 99) C.1 C.2.1 dX1_areRows_94 (by decide) (fun c94 => ?_) (fun c94 => ?_)
              · replace h := ineg c94 h
                refine lv_iinc (v := (x4 + 3)) (lv' := [(4, .int (x4 + 3)), (7, .int r79), (6, .int r36), (5, .int r26), (1, .ref (gB E + a1)), (2, .ref (gB E + 1)), (3, .int x3)]) C.1 C.2.1 dX1_areRows_99 hl (k := 6) rfl rfl (by decide) rfl (fun ls hl => ?_)
                refine lv_goto (tgt := 17) C.1 C.2.1 dX1_areRows_102 (by decide) ?_
                exact ih X hk_a1 (lv_sub hl [4, 5, 6, 0] rfl) h
              · replace h := ipos c94 h
                refine lv_iconst (v := 0) C.1 C.2.1 dX1_areRows_97 (by decide) ?_
                obtain ⟨u98, z98, h⟩ := bnd h
                rw [← Option.some.inj h]
                exact rtZ C X (gb_s z98) dX1_areRows_98
          · replace h := ineg c68 h
            refine lv_iconst (v := 0) C.1 C.2.1 dX1_areRows_71 (by decide) ?_
            obtain ⟨u72, z72, h⟩ := bnd h
            rw [← Option.some.inj h]
            exact rtZ C X (gb_s z72) dX1_areRows_72

set_option maxRecDepth 20000 in
theorem w_X1_areRows {r : Int32} {σ : Mem} {a1 : Nat} {x3 : Int32} {ls : Array Slot} {H : Heap} {locs : List Loc} (C : Cx p s m args meth c cX1_areRows (some .boolean) 8 RX1) (G : Gf E s) (X : Hx E σ s H locs) (hk_a1 : kd a1 = 2) (hl : lv_has ls 8 [(0, .ref (gB E + 396)), (1, .ref (gB E + a1)), (2, .ref (gB E + 1)), (3, .int x3)]) (h : X1_areRows σ a1 x3 = some r) : W p l e (RM 3) s m args below meth c H locs 0 0 (QI E below args s r σ) (F0 m 0 ls []) := by
  rw [X1_areRows] at h
  refine lv_iload_n C.1 C.2.1 dX1_areRows_0 rfl (lv_at hl 3 rfl) ?_
  refine lv_bipush (v := 39) C.1 C.2.1 dX1_areRows_1 (by decide) ?_
  refine lv_icmp_gt (tgt := 12) C.1 C.2.1 dX1_areRows_3 (by decide) (fun c3 => ?_) (fun c3 => ?_)
  · replace h := ipos c3 h
    refine lv_iconst (v := 0) C.1 C.2.1 dX1_areRows_12 (by decide) ?_
    obtain ⟨u13, z13, h⟩ := bnd h
    rw [← Option.some.inj h]
    exact rtZ C X (gb_s z13) dX1_areRows_13
  · replace h := ineg c3 h
    refine lv_iload_n C.1 C.2.1 dX1_areRows_6 rfl (lv_at hl 3 rfl) ?_
    refine lv_iconst (v := 3) C.1 C.2.1 dX1_areRows_7 (by decide) ?_
    refine lv_irem C.1 C.2.1 dX1_areRows_8 (by decide) ?_
    refine lv_if_eq (tgt := 14) C.1 C.2.1 dX1_areRows_9 (by decide) (fun c9 => ?_) (fun c9 => ?_)
    · replace h := ipos c9 h
      refine lv_iconst (v := 0) C.1 C.2.1 dX1_areRows_14 (by decide) ?_
      refine lv_istore (lv' := [(4, .int (0 : Int32)), (0, .ref (gB E + 396)), (1, .ref (gB E + a1)), (2, .ref (gB E + 1)), (3, .int x3)]) C.1 C.2.1 dX1_areRows_15 hl (by decide) rfl (fun ls hl => ?_)
      exact w_X1_areRows_17 C G FU X hk_a1 (lv_sub hl [2, 3, 4, 0] rfl) h
    · replace h := ineg c9 h
      refine lv_iconst (v := 0) C.1 C.2.1 dX1_areRows_12 (by decide) ?_
      obtain ⟨u13, z13, h⟩ := bnd h
      rw [← Option.some.inj h]
      exact rtZ C X (gb_s z13) dX1_areRows_13

theorem c_X1_areRows (l : Launch) (E : GE) {σ : Mem} {a1 : Nat} {x3 : Int32} (hk_a1 : kd a1 = 2) {r : Int32} (h : X1_areRows σ a1 x3 = some r) : CtI l E yX1_areRows cX1_areRows 8 .boolean 3 [.ref (gB E + 396), .ref (gB E + a1), .ref (gB E + 1), .int x3] σ r σ := by
  refine Met.ofW (cc := cX1_areRows) (maxL := 8) (ret := (some .boolean)) (by decide) rfl ?_
  intro p e s m args below meth c s₁ B hml hv
  obtain ⟨rfl, G, X⟩ := start hv
  have C := cxof B hml
  have hl := lv_entry [.ref (gB E + 396), .ref (gB E + a1), .ref (gB E + 1), .int x3] (n := 8) (Nat.le_of_ble_eq_true rfl)
  rw [lg_entry_eq]
  generalize (lg_sl [.ref (gB E + 396), .ref (gB E + a1), .ref (gB E + 1), .int x3] ++ List.replicate (8 - (lg_sl [.ref (gB E + 396), .ref (gB E + a1), .ref (gB E + 1), .int x3]).length) Slot.unset).toArray = ls at hl ⊢
  exact w_X1_areRows C G X hk_a1 hl h

end WALK

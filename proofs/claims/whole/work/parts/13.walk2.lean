def X1_whyDark_34 : Nat → Nat → Nat → Int32 → Int32 → Int32 → Mem → Option (Int32 × Mem)
  | 0, _, _, _, _, _, _ => none
  | f + 1, a1, a2, x3, x4, x5, σ =>
    if (σ a1 1) ≤ x5 then
      some (x4, σ)
    else
      bd (X6_get σ (a1 + 11) x5) fun r56 =>
      bd2 (X3_letsLight a2 a1 x5 x3 (9 : Int32) r56 σ) fun r59 σ59 =>
      if r59 = 0 then
        X1_whyDark_34 f a1 a2 x3 x4 (x5 + 1) σ59
      else
        bd (X11_bit σ59 x5) fun r69 =>
        X1_whyDark_34 f a1 a2 x3 (x4 ||| r69) (x5 + 1) σ59
def X1_whyDark (a1 : Nat) (a2 : Nat) (x3 : Int32) (σ : Mem) : Option (Int32 × Mem) :=
  bd (X7_isBurning σ a1 x3) fun r2 =>
  if r2 = 0 then
    bd (X6_get σ (a1 + 3) x3) fun r13 =>
    if r13 = (-1 : Int32) then
      some ((0 : Int32), σ)
    else
      bd2 (X1_canLight a1 a2 x3 σ) fun r26 σ26 =>
      X1_whyDark_34 FU a1 a2 x3 r26 (0 : Int32) σ26
  else
    some ((0 : Int32), σ)
def X11_pane (x1 : Int32) (x2 : Int32) (σ : Mem) : Option ((Int32 ⊕ Nat) × Mem) :=
  bdx (X11_needPane σ x1) (fun _ =>
    if x2 = (0 : Int32) then
      bd (X6_get σ 10 x1) fun r60 =>
      some (.inl r60, σ)
    else
      if x2 = (1 : Int32) then
        bd (X7_isBurning σ 9 x1) fun r69 =>
        if r69 = 0 then
          some (.inl (0 : Int32), σ)
        else
          some (.inl (1 : Int32), σ)
      else
        if x2 = (2 : Int32) then
          bd (X6_get σ 12 x1) fun r89 =>
          some (.inl r89, σ)
        else
          if x2 = (3 : Int32) then
            bd (X6_get σ 14 x1) fun r101 =>
            some (.inl r101, σ)
          else
            if x2 = (4 : Int32) then
              bd2 (X1_canLight 9 72 x1 σ) fun r118 σ118 =>
              some (.inl r118, σ118)
            else
              if x2 = (5 : Int32) then
                bd2 (X0_firstBurning 9 72 x1 σ) fun r135 σ135 =>
                some (.inl r135, σ135)
              else
                if x2 = (6 : Int32) then
                  bd2 (X1_whyDark 9 72 x1 σ) fun r152 σ152 =>
                  some (.inl r152, σ152)
                else
                  if x2 = (7 : Int32) then
                    bd (X7_isBurning σ 9 x1) fun r161 =>
                    if r161 = 0 then
                      some (.inl (0 : Int32), σ)
                    else
                      bd (X6_get σ 10 x1) fun r175 =>
                      some (.inl r175, σ)
                  else
                    some (.inr 4, σ))
   (fun x2_ =>
    some (.inr x2_, σ))

def X11_needWalker_15 (σ : Mem) : Option (Int32 ⊕ Nat) :=
  some (.inr 1)
def X11_needWalker (σ : Mem) (x1 : Int32) : Option (Int32 ⊕ Nat) :=
  if x1 < 0 then
    X11_needWalker_15 σ
  else
    if x1 < (σ 9 1) then
      some (.inl 0)
    else
      X11_needWalker_15 σ
def X7_reached_10 (σ : Mem) : Nat → Nat → Int32 → Int32 → Int32 → Option Int32
  | 0, _, _, _, _ => none
  | f + 1, a0, x2, x3, x4 =>
    if (9 : Int32) ≤ x4 then
      some (x3)
    else
      bd (X7_around σ a0 x3) fun r20 =>
      X7_reached_10 σ f a0 x2 (x3 ||| (r20 &&& x2)) (x4 + 1)
def X7_reached (σ : Mem) (a0 : Nat) (x1 : Int32) (x2 : Int32) : Option Int32 :=
  bd (X11_bit σ x1) fun r1 =>
  X7_reached_10 σ FU a0 x2 (r1 &&& x2) (0 : Int32)
def X1_tapersFor_35 : Nat → Nat → Nat → Int32 → Int32 → Int32 → Int32 → Int32 → Mem → Option (Int32 × Mem)
  | 0, _, _, _, _, _, _, _, _ => none
  | f + 1, a1, a2, x3, x4, x5, x6, x7, σ =>
    if (σ a1 0) ≤ x7 then
      some (x6, σ)
    else
      bd (X7_likesFor σ a1 x3 x7) fun r48 =>
      bd (X11_hasBit σ x4 x7) fun r57 =>
      if r57 = 0 then
        X1_tapersFor_35 f a1 a2 x3 x4 x5 x6 (x7 + 1) σ
      else
        bd2 (X3_letsLight a2 a1 x3 x7 r48 x5 σ) fun r72 σ72 =>
        if r72 = 0 then
          X1_tapersFor_35 f a1 a2 x3 x4 x5 x6 (x7 + 1) σ72
        else
          X1_tapersFor_35 f a1 a2 x3 x4 x5 (x6 + 1) (x7 + 1) σ72
def X1_tapersFor (a1 : Nat) (a2 : Nat) (x3 : Int32) (σ : Mem) : Option (Int32 × Mem) :=
  bd (X6_get σ (a1 + 9) x3) fun r6 =>
  bd (X7_reached σ a1 r6 (-1 : Int32)) fun r10 =>
  bd (X6_get σ (a1 + 11) x3) fun r20 =>
  X1_tapersFor_35 FU a1 a2 x3 r10 (if r20 < (1 : Int32) then (1 : Int32) else r20) (0 : Int32) (0 : Int32) σ
def X7_farOf_8 (σ : Mem) : Nat → Nat → Int32 → Int32 → Int32 → Option Int32
  | 0, _, _, _, _ => none
  | f + 1, a0, x2, x3, x4 =>
    if (9 : Int32) ≤ x4 then
      some ((-1 : Int32))
    else
      bd (X11_hasBit σ x3 x2) fun r17 =>
      if r17 = 0 then
        bd (X7_around σ a0 x3) fun r29 =>
        X7_farOf_8 σ f a0 x2 (x3 ||| r29) (x4 + 1)
      else
        some (x4)
def X7_farOf (σ : Mem) (a0 : Nat) (x1 : Int32) (x2 : Int32) : Option Int32 :=
  bd (X11_bit σ x1) fun r1 =>
  X7_farOf_8 σ FU a0 x2 r1 (0 : Int32)
def X7_paneOf_2 (σ : Mem) : Nat → Nat → Int32 → Int32 → Option Int32
  | 0, _, _, _ => none
  | f + 1, a0, x1, x2 =>
    if (σ a0 0) ≤ x2 then
      some ((-1 : Int32))
    else
      bd (X6_get σ (a0 + 3) x2) fun r15 =>
      if r15 = x1 then
        some (x2)
      else
        X7_paneOf_2 σ f a0 x1 (x2 + 1)
def X7_paneOf (σ : Mem) (a0 : Nat) (x1 : Int32) : Option Int32 :=
  X7_paneOf_2 σ FU a0 x1 (0 : Int32)
def X1_isTrade (a1 : Nat) (a2 : Nat) (x3 : Int32) (x4 : Int32) (σ : Mem) : Option (Int32 × Mem) :=
  bd (X6_get σ (a1 + 3) x4) fun r6 =>
  bd (X7_paneOf σ a1 x3) fun r13 =>
  if r6 = (-1 : Int32) then
    bd (gb (0 : Int32)) fun _ =>
    some ((0 : Int32), σ)
  else
    if r6 = x3 then
      bd (gb (0 : Int32)) fun _ =>
      some ((0 : Int32), σ)
    else
      if r13 = (-1 : Int32) then
        bd (gb (0 : Int32)) fun _ =>
        some ((0 : Int32), σ)
      else
        bd (X7_likesOf σ a1 r6 x3) fun r42 =>
        bd (some ((if (9 : Int32) < (r42 + (1 : Int32)) then (9 : Int32) else (r42 + (1 : Int32))))) fun v52 =>
        bd (X7_likesOf σ a1 x3 r6) fun r63 =>
        bd (X6_get σ (a1 + 11) x3) fun r71 =>
        bd2 (X3_letsLight a2 a1 x3 x4 r63 r71 σ) fun r74 σ74 =>
        if r74 = 0 then
          bd (gb (0 : Int32)) fun _ =>
          some ((0 : Int32), σ74)
        else
          bd (X6_get σ74 (a1 + 11) r6) fun r94 =>
          bd2 (X3_letsLight a2 a1 r6 r13 v52 r94 σ74) fun r97 σ97 =>
          if r97 = 0 then
            bd (gb (0 : Int32)) fun _ =>
            some ((0 : Int32), σ97)
          else
            bd (gb (1 : Int32)) fun _ =>
            some ((1 : Int32), σ97)
def X1_turnOf_11 : Nat → Nat → Nat → Int32 → Int32 → Int32 → Int32 → Mem → Option (Int32 × Mem)
  | 0, _, _, _, _, _, _, _ => none
  | f + 1, a1, a2, x3, x4, x5, x6, σ =>
    if (σ a1 0) ≤ x6 then
      some (x4, σ)
    else
      bd (X6_get σ (a1 + 9) x3) fun r26 =>
      bd (X7_farOf σ a1 r26 x6) fun r31 =>
      if r31 = (-1 : Int32) then
        X1_turnOf_11 f a1 a2 x3 x4 x5 (x6 + 1) σ
      else
        if x5 ≤ r31 then
          X1_turnOf_11 f a1 a2 x3 x4 x5 (x6 + 1) σ
        else
          bd2 (X1_isTrade a1 a2 x3 x6 σ) fun r55 σ55 =>
          if r55 = 0 then
            X1_turnOf_11 f a1 a2 x3 x4 x5 (x6 + 1) σ55
          else
            X1_turnOf_11 f a1 a2 x3 x6 r31 (x6 + 1) σ55
def X1_turnOf (a1 : Nat) (a2 : Nat) (x3 : Int32) (σ : Mem) : Option (Int32 × Mem) :=
  X1_turnOf_11 FU a1 a2 x3 (-1 : Int32) (1000 : Int32) (0 : Int32) σ
def X7_litByAll_4 (σ : Mem) : Nat → Nat → Int32 → Int32 → Option Int32
  | 0, _, _, _ => none
  | f + 1, a0, x1, x2 =>
    if (σ a0 1) ≤ x2 then
      some (x1)
    else
      bd (X6_get σ (a0 + 15) x2) fun r18 =>
      X7_litByAll_4 σ f a0 (x1 + r18) (x2 + 1)
def X7_litByAll (σ : Mem) (a0 : Nat) : Option Int32 :=
  X7_litByAll_4 σ FU a0 (0 : Int32) (0 : Int32)
def X7_partOf (σ : Mem) (a0 : Nat) (x1 : Int32) : Option Int32 :=
  bd (X7_litByAll σ a0) fun r1 =>
  if 0 < r1 then
    bd (X6_get σ (a0 + 15) x1) fun r18 =>
    bd (gz r1) fun _ =>
    some (((r18 * (100 : Int32)) / r1))
  else
    some ((0 : Int32))
def X11_walker (x1 : Int32) (x2 : Int32) (σ : Mem) : Option ((Int32 ⊕ Nat) × Mem) :=
  bdx (X11_needWalker σ x1) (fun _ =>
    if x2 = (0 : Int32) then
      bd (X6_get σ 18 x1) fun r56 =>
      some (.inl r56, σ)
    else
      if x2 = (1 : Int32) then
        bd (X6_get σ 20 x1) fun r68 =>
        some (.inl r68, σ)
      else
        if x2 = (2 : Int32) then
          bd (X6_get σ 22 x1) fun r80 =>
          some (.inl r80, σ)
        else
          if x2 = (3 : Int32) then
            bd (X6_get σ 24 x1) fun r92 =>
            some (.inl r92, σ)
          else
            if x2 = (4 : Int32) then
              bd2 (X1_tapersFor 9 72 x1 σ) fun r109 σ109 =>
              some (.inl r109, σ109)
            else
              if x2 = (5 : Int32) then
                bd2 (X1_turnOf 9 72 x1 σ) fun r126 σ126 =>
                some (.inl r126, σ126)
              else
                if x2 = (6 : Int32) then
                  bd (X7_partOf σ 9 x1) fun r135 =>
                  some (.inl r135, σ)
                else
                  some (.inr 4, σ))
   (fun x2_ =>
    some (.inr x2_, σ))

def X11_needTwoWalkers (σ : Mem) (x1 : Int32) (x2 : Int32) : Option (Int32 ⊕ Nat) :=
  bdx (X11_needWalker σ x1) (fun _ =>
    bdx (X11_needWalker σ x2) (fun _ =>
      if x1 = x2 then
        some (.inr 2)
      else
        some (.inl 0))
     (fun x7_ =>
      some (.inr x7_))
)
   (fun x2_ =>
    some (.inr x2_))

def X11_likes (σ : Mem) (x1 : Int32) (x2 : Int32) : Option (Int32 ⊕ Nat) :=
  bdx (X11_needTwoWalkers σ x1 x2) (fun _ =>
    bd (X7_likesOf σ 9 x1 x2) fun r12 =>
    some (.inl r12))
   (fun x3_ =>
    some (.inr x3_))

def X11_will (x1 : Int32) (x2 : Int32) (σ : Mem) : Option ((Int32 ⊕ Nat) × Mem) :=
  bdx (X11_needWalker σ x1) (fun _ =>
    bdx (X11_needPane σ x2) (fun _ =>
      bd (X7_likesFor σ 9 x1 x2) fun r26 =>
      bd (X6_get σ 20 x1) fun r37 =>
      bd (X3_look 72 9 x1 x2 r26 r37 σ) fun σ40 =>
      bd2 (X3_willNow 72 σ40) fun r47 σ47 =>
      some (.inl r47, σ47))
     (fun x7_ =>
      some (.inr x7_, σ))
)
   (fun x2_ =>
    some (.inr x2_, σ))

def X11_lights (x1 : Int32) (x2 : Int32) (σ : Mem) : Option ((Int32 ⊕ Nat) × Mem) :=
  bdx (X11_needWalker σ x1) (fun _ =>
    bdx (X11_needPane σ x2) (fun _ =>
      bd (X7_likesFor σ 9 x1 x2) fun r26 =>
      bd (X6_get σ 20 x1) fun r37 =>
      bd2 (X3_letsLight 72 9 x1 x2 r26 r37 σ) fun r40 σ40 =>
      bd (gb r40) fun _ =>
      some (.inl r40, σ40))
     (fun x7_ =>
      some (.inr x7_, σ))
)
   (fun x2_ =>
    some (.inr x2_, σ))

def X11_needTwoPanes (σ : Mem) (x1 : Int32) (x2 : Int32) : Option (Int32 ⊕ Nat) :=
  bdx (X11_needPane σ x1) (fun _ =>
    bdx (X11_needPane σ x2) (fun _ =>
      if x1 = x2 then
        some (.inr 2)
      else
        some (.inl 0))
     (fun x7_ =>
      some (.inr x7_))
)
   (fun x2_ =>
    some (.inr x2_))

def X7_hasWay (σ : Mem) (a0 : Nat) (x1 : Int32) (x2 : Int32) : Option Int32 :=
  bd (X6_get σ (a0 + 7) x1) fun r5 =>
  bd (X11_hasBit σ r5 x2) fun r9 =>
  bd (gb r9) fun _ =>
  some (r9)
def X11_isOpen (σ : Mem) (x1 : Int32) (x2 : Int32) : Option (Int32 ⊕ Nat) :=
  bdx (X11_needTwoPanes σ x1 x2) (fun _ =>
    bd (X7_hasWay σ 9 x1 x2) fun r12 =>
    bd (gb r12) fun _ =>
    some (.inl r12))
   (fun x3_ =>
    some (.inr x3_))

def X11_needNumber_10 (σ : Mem) : Option (Int32 ⊕ Nat) :=
  some (.inr 2)
def X11_needNumber (σ : Mem) (x0 : Int32) (x1 : Int32) (x2 : Int32) : Option (Int32 ⊕ Nat) :=
  if x0 < x1 then
    X11_needNumber_10 σ
  else
    if x0 ≤ x2 then
      some (.inl 0)
    else
      X11_needNumber_10 σ
def X2_slotAt_22 (σ : Mem) : Option (Option Nat) :=
  some (none)
def X2_slotAt (σ : Mem) (x1 : Int32) : Option (Option Nat) :=
  if x1 < 0 then
    X2_slotAt_22 σ
  else
    if (nI (ln 112)) ≤ x1 then
      X2_slotAt_22 σ
    else
      bd (hSl x1) fun r18 =>
      some ((some r18))
def X2_remember (a1 : Nat) (σ : Mem) : Option Mem :=
  bd (X2_slotAt σ (σ 111 1)) fun r5 =>
  match r5 with
  | none =>
    some σ
  | some r10 =>
    bd (gk2 r10) fun _ =>
    bd (X7_copyFrom r10 a1 σ) fun σ15 =>
    bd (pu σ15 111 1 (((σ15 111 1) + (1 : Int32)) - ((σ15 111 1) + (1 : Int32)) / (12 : Int32) * (12 : Int32))) fun σ28 =>
    bd (pu σ28 111 2 (if (12 : Int32) < ((σ28 111 2) + (1 : Int32)) then (12 : Int32) else ((σ28 111 2) + (1 : Int32)))) fun σ43 =>
    some σ43
def X11_hours_22 : Nat → Int32 → Int32 → Int32 → Mem → Option ((Int32 ⊕ Nat) × Mem)
  | 0, _, _, _, _ => none
  | f + 1, x1, x2, x3, σ =>
    if x1 ≤ x3 then
      some (.inl x2, σ)
    else
      bd2 (X0_tick 9 72 (1 : Int32) σ) fun r41 σ41 =>
      X11_hours_22 f x1 (x2 + r41) (x3 + 1) σ41
def X11_hours (x1 : Int32) (σ : Mem) : Option ((Int32 ⊕ Nat) × Mem) :=
  bdx (X11_needNumber σ x1 (1 : Int32) (60 : Int32)) (fun _ =>
    bd (X2_remember 9 σ) fun σ15 =>
    X11_hours_22 FU x1 (0 : Int32) (0 : Int32) σ15)
   (fun x4_ =>
    some (.inr x4_, σ))

def X11_heads_15 (x1 : Int32) (x2 : Int32) (σ : Mem) : Option ((Int32 ⊕ Nat) × Mem) :=
  bd (X2_remember 9 σ) fun σ23 =>
  bd (X6_get σ23 22 x1) fun r34 =>
  bd (X6_set 22 x1 x2 σ23) fun σ47 =>
  some (.inl r34, σ47)
def X11_heads (x1 : Int32) (x2 : Int32) (σ : Mem) : Option ((Int32 ⊕ Nat) × Mem) :=
  bdx (X11_needWalker σ x1) (fun _ =>
    if x2 = (-1 : Int32) then
      X11_heads_15 x1 x2 σ
    else
      bdx (X11_needPane σ x2) (fun _ =>
        X11_heads_15 x1 x2 σ)
       (fun x12_ =>
        some (.inr x12_, σ))
)
   (fun x2_ =>
    some (.inr x2_, σ))

def X7_mayStrike (σ : Mem) (a0 : Nat) (x1 : Int32) (x2 : Int32) : Option Int32 :=
  bd (X6_get σ (a0 + 11) x1) fun r5 =>
  if r5 ≤ 0 then
    bd (gb (0 : Int32)) fun _ =>
    some ((0 : Int32))
  else
    bd (X7_isBurning σ a0 x2) fun r13 =>
    if r13 = 0 then
      bd (X6_get σ (a0 + 1) x2) fun r24 =>
      if r24 ≤ 0 then
        bd (gb (0 : Int32)) fun _ =>
        some ((0 : Int32))
      else
        bd (X6_get σ (a0 + 3) x2) fun r35 =>
        if r35 = x1 then
          bd (gb (0 : Int32)) fun _ =>
          some ((0 : Int32))
        else
          bd (gb (1 : Int32)) fun _ =>
          some ((1 : Int32))
    else
      bd (gb (0 : Int32)) fun _ =>
      some ((0 : Int32))
def X11_strike (x1 : Int32) (σ : Mem) : Option ((Int32 ⊕ Nat) × Mem) :=
  bdx (X11_needWalker σ x1) (fun _ =>
    bd (X6_get σ 18 x1) fun r13 =>
    bd (X7_mayStrike σ 9 x1 r13) fun r23 =>
    if r23 = 0 then
      some (.inr 3, σ)
    else
      bd (X2_remember 9 σ) fun σ47 =>
      bd (X7_light 9 x1 r13 (1 : Int32) σ47) fun σ57 =>
      bd (X6_get σ57 20 x1) fun r68 =>
      some (.inl r68, σ57))
   (fun x2_ =>
    some (.inr x2_, σ))

def X11_snuff_31 (σ : Mem) : Option ((Int32 ⊕ Nat) × Mem) :=
  some (.inr 3, σ)
def X11_snuff (x1 : Int32) (σ : Mem) : Option ((Int32 ⊕ Nat) × Mem) :=
  bdx (X11_needPane σ x1) (fun _ =>
    bd (X7_isBurning σ 9 x1) fun r10 =>
    if r10 = 0 then
      X11_snuff_31 σ
    else
      bd (X6_get σ 12 x1) fun r24 =>
      if r24 = (-1 : Int32) then
        X11_snuff_31 σ
      else
        bd (X2_remember 9 σ) fun σ49 =>
        bd (X11_bit σ49 x1) fun r61 =>
        bd (pu σ49 9 8 ((σ49 9 8) &&& (r61 ^^^ (-1 : Int32)))) fun σ67 =>
        bd (X6_get σ67 12 x1) fun r84 =>
        bd (X7_write 9 (3 : Int32) x1 r84 σ67) fun σ87 =>
        bd (X6_get σ87 10 x1) fun r98 =>
        some (.inl r98, σ87))
   (fun x2_ =>
    some (.inr x2_, σ))

def X11_oil (x1 : Int32) (x2 : Int32) (σ : Mem) : Option ((Int32 ⊕ Nat) × Mem) :=
  bdx (X11_needPane σ x1) (fun _ =>
    bdx (X11_needNumber σ x2 (1 : Int32) (99 : Int32)) (fun _ =>
      bd (X2_remember 9 σ) fun σ20 =>
      bd (X6_get σ20 10 x1) fun r39 =>
      bd (X6_set 10 x1 (if (99 : Int32) < (r39 + x2) then (99 : Int32) else (r39 + x2)) σ20) fun σ49 =>
      bd (X6_get σ49 10 x1) fun r60 =>
      some (.inl r60, σ49))
     (fun x9_ =>
      some (.inr x9_, σ))
)
   (fun x2_ =>
    some (.inr x2_, σ))

def X11_taper (x1 : Int32) (x2 : Int32) (σ : Mem) : Option ((Int32 ⊕ Nat) × Mem) :=
  bdx (X11_needWalker σ x1) (fun _ =>
    bdx (X11_needNumber σ x2 (1 : Int32) (99 : Int32)) (fun _ =>
      bd (X2_remember 9 σ) fun σ20 =>
      bd (X6_get σ20 20 x1) fun r39 =>
      bd (X6_set 20 x1 (if (99 : Int32) < (r39 + x2) then (99 : Int32) else (r39 + x2)) σ20) fun σ49 =>
      bd (X6_get σ49 20 x1) fun r60 =>
      some (.inl r60, σ49))
     (fun x9_ =>
      some (.inr x9_, σ))
)
   (fun x2_ =>
    some (.inr x2_, σ))

def X11_like (x1 : Int32) (x2 : Int32) (x3 : Int32) (σ : Mem) : Option ((Int32 ⊕ Nat) × Mem) :=
  bdx (X11_needTwoWalkers σ x1 x2) (fun _ =>
    bdx (X11_needNumber σ x3 (0 : Int32) (9 : Int32)) (fun _ =>
      bd (X2_remember 9 σ) fun σ21 =>
      bd (X7_likesOf σ21 9 x1 x2) fun r30 =>
      bd (X7_setLikes 9 x1 x2 x3 σ21) fun σ42 =>
      some (.inl r30, σ42))
     (fun x10_ =>
      some (.inr x10_, σ))
)
   (fun x3_ =>
    some (.inr x3_, σ))

def X11_way (x1 : Int32) (x2 : Int32) (x3 : Int32) (σ : Mem) : Option ((Int32 ⊕ Nat) × Mem) :=
  bdx (X11_needTwoPanes σ x1 x2) (fun _ =>
    bd (X2_remember 9 σ) fun σ14 =>
    bd (X7_hasWay σ14 9 x1 x2) fun r23 =>
    bd (X7_setWay 9 x1 x2 x3 σ14) fun σ35 =>
    if r23 = x3 then
      bd (gb (0 : Int32)) fun _ =>
      some (.inl (0 : Int32), σ35)
    else
      bd (gb (1 : Int32)) fun _ =>
      some (.inl (1 : Int32), σ35))
   (fun x3_ =>
    some (.inr x3_, σ))

def X11_far (σ : Mem) (x1 : Int32) (x2 : Int32) : Option (Int32 ⊕ Nat) :=
  bdx (X11_needPane σ x1) (fun _ =>
    bdx (X11_needPane σ x2) (fun _ =>
      bd (X7_farOf σ 9 x1 x2) fun r16 =>
      some (.inl r16))
     (fun x7_ =>
      some (.inr x7_))
)
   (fun x2_ =>
    some (.inr x2_))

def X0_firstAllDark_10 : Nat → Nat → Int32 → Mem → Option (Int32 × Mem)
  | 0, _, _, _ => none
  | f + 1, a2, x3, σ =>
    if (60 : Int32) < x3 then
      some ((-1 : Int32), σ)
    else
      if (σ 366 8) = 0 then
        some (x3, σ)
      else
        bd2 (X0_tick 366 a2 (0 : Int32) σ) fun r35 σ35 =>
        X0_firstAllDark_10 f a2 (x3 + 1) σ35
def X0_firstAllDark (a1 : Nat) (a2 : Nat) (σ : Mem) : Option (Int32 × Mem) :=
  bd (X7_copyFrom 366 a1 σ) fun σ5 =>
  X0_firstAllDark_10 FU a2 (0 : Int32) σ5
def X11_out (σ : Mem) : Option (Int32 × Mem) :=
  bd2 (X0_firstAllDark 9 72 σ) fun r12 σ12 =>
  some (r12, σ12)
def X0_firstSpoon_19 (rc10 : Nat → Int32 → Mem → Option (Int32 × Mem)) : Nat → Nat → Int32 → Int32 → Mem → Option (Int32 × Mem)
  | 0, _, _, _, _ => none
  | f + 1, a2, x3, x4, σ =>
    if (σ 366 0) ≤ x4 then
      bd2 (X0_tick 366 a2 (0 : Int32) σ) fun r79 σ79 =>
      rc10 a2 (x3 + 1) σ79
    else
      bd (X6_get σ 369 x4) fun r40 =>
      if r40 = (-1 : Int32) then
        X0_firstSpoon_19 rc10 f a2 x3 (x4 + 1) σ
      else
        bd (X6_get σ 371 x4) fun r56 =>
        if r56 < (3 : Int32) then
          X0_firstSpoon_19 rc10 f a2 x3 (x4 + 1) σ
        else
          some (x4, σ)
def X0_firstSpoon_10 : Nat → Nat → Int32 → Mem → Option (Int32 × Mem)
  | 0, _, _, _ => none
  | f + 1, a2, x3, σ =>
    if (60 : Int32) < x3 then
      some ((-1 : Int32), σ)
    else
      X0_firstSpoon_19 (X0_firstSpoon_10 f) FU a2 x3 (0 : Int32) σ
def X0_firstSpoon (a1 : Nat) (a2 : Nat) (σ : Mem) : Option (Int32 × Mem) :=
  bd (X7_copyFrom 366 a1 σ) fun σ5 =>
  X0_firstSpoon_10 FU a2 (0 : Int32) σ5
def X11_spoon (σ : Mem) : Option (Int32 × Mem) :=
  bd2 (X0_firstSpoon 9 72 σ) fun r12 σ12 =>
  some (r12, σ12)
def X1_neverLit_5 : Nat → Nat → Nat → Int32 → Int32 → Mem → Option (Int32 × Mem)
  | 0, _, _, _, _, _ => none
  | f + 1, a1, a2, x3, x4, σ =>
    if (σ a1 0) ≤ x4 then
      some (x3, σ)
    else
      bd (X7_isBurning σ a1 x4) fun r17 =>
      if r17 = 0 then
        bd2 (X1_canLight a1 a2 x4 σ) fun r28 σ28 =>
        if r28 = 0 then
          bd (X11_bit σ28 x4) fun r37 =>
          X1_neverLit_5 f a1 a2 (x3 ||| r37) (x4 + 1) σ28
        else
          X1_neverLit_5 f a1 a2 x3 (x4 + 1) σ28
      else
        X1_neverLit_5 f a1 a2 x3 (x4 + 1) σ
def X1_neverLit (a1 : Nat) (a2 : Nat) (σ : Mem) : Option (Int32 × Mem) :=
  X1_neverLit_5 FU a1 a2 (0 : Int32) (0 : Int32) σ
def X11_never (σ : Mem) : Option (Int32 × Mem) :=
  bd2 (X1_neverLit 9 72 σ) fun r12 σ12 =>
  some (r12, σ12)
def X10_byteAt (σ : Mem) (x1 : Int32) : Option Int32 :=
  bd (X6_get σ 2 x1) fun r5 =>
  some (r5)
def X5_toldPanes_14 (σ : Mem) : Nat → Nat → Int32 → Int32 → Int32 → Option Int32
  | 0, _, _, _, _ => none
  | f + 1, a1, x3, x4, x5 =>
    if x3 ≤ x5 then
      some (x4)
    else
      bd (X10_byteAt σ x5) fun r23 =>
      if (σ a1 0) ≤ r23 then
        some ((-1 : Int32))
      else
        bd (X11_hasBit σ x4 r23) fun r41 =>
        if r41 = 0 then
          bd (X11_bit σ r23) fun r53 =>
          X5_toldPanes_14 σ f a1 x3 (x4 ||| r53) (x5 + 1)
        else
          some ((-1 : Int32))
def X5_toldPanes (σ : Mem) (a1 : Nat) (x3 : Int32) : Option Int32 :=
  if x3 ≤ (8 : Int32) then
    X5_toldPanes_14 σ FU a1 x3 (0 : Int32) (0 : Int32)
  else
    some ((-1 : Int32))
def X5_measure_12 (rc2 : Nat → Int32 → Mem → Option Mem) : Nat → Nat → Int32 → Int32 → Mem → Option Mem
  | 0, _, _, _, _ => none
  | f + 1, a1, x2, x3, σ =>
    if (σ a1 0) ≤ x3 then
      rc2 a1 (x2 + 1) σ
    else
      bd (X7_farOf σ a1 x2 x3) fun r33 =>
      bd (X6_set 388 ((x2 * (9 : Int32)) + x3) r33 σ) fun σ36 =>
      X5_measure_12 rc2 f a1 x2 (x3 + 1) σ36
def X5_measure_2 : Nat → Nat → Int32 → Mem → Option Mem
  | 0, _, _, _ => none
  | f + 1, a1, x2, σ =>
    if (σ a1 0) ≤ x2 then
      some σ
    else
      X5_measure_12 (X5_measure_2 f) FU a1 x2 (0 : Int32) σ
def X5_measure (a1 : Nat) (σ : Mem) : Option Mem :=
  X5_measure_2 FU a1 (0 : Int32) σ
section WALK
variable {p : Program} {l : Launch} {e : Env} {s : State} {m : MethodId} {args : Array Value} {below : List Frame} {meth : Method} {c : Code} {E : GE}
set_option maxRecDepth 20000 in
theorem w_X1_whyDark_34 {r : (Int32 × Mem)} (C : Cx p s m args meth c cX1_whyDark (some .int) 6 RX1) (G : Gf E s) : ∀ (f : Nat) {a1 : Nat} {a2 : Nat} {x3 : Int32} {x4 : Int32} {x5 : Int32} {σ : Mem} {ls : Array Slot} {H : Heap} {locs : List Loc}, Hx E σ s H locs → kd a1 = 2 → kd a2 = 3 → lv_has ls 6 [(1, .ref (gB E + a1)), (2, .ref (gB E + a2)), (3, .int x3), (4, .int x4), (5, .int x5)] → X1_whyDark_34 f a1 a2 x3 x4 x5 σ = some r → W p l e (RM 6) s m args below meth c H locs 0 0 (QI E below args s r.1 r.2) (F0 m 34 ls []) := by
  intro f
  induction f with
  | zero =>
    intro a1 a2 x3 x4 x5 σ ls H locs X hk_a1 hk_a2 hl h
    rw [X1_whyDark_34] at h
    cases h
  | succ f ih =>
    intro a1 a2 x3 x4 x5 σ ls H locs X hk_a1 hk_a2 hl h
    rw [X1_whyDark_34] at h
    refine lv_iload C.1 C.2.1 dX1_whyDark_34 (lv_at hl 4 rfl) ?_
    refine lv_aload_n C.1 C.2.1 dX1_whyDark_36 rfl (lv_at hl 0 rfl) ?_
    refine gfX7 C G X (k := a1) hk_a1 1 (v := .int (σ a1 1)) rfl rfl (by decide) k_204 rfl dX1_whyDark_37 ?_
    refine lv_icmp_ge (tgt := 81) C.1 C.2.1 dX1_whyDark_40 (by decide) (fun c40 => ?_) (fun c40 => ?_)
    · replace h := ipos c40 h
      refine lv_iload C.1 C.2.1 dX1_whyDark_81 (lv_at hl 3 rfl) ?_
      rw [← Option.some.inj h]
      exact rtI C X dX1_whyDark_83
    · replace h := ineg c40 h
      refine lv_aload_n C.1 C.2.1 dX1_whyDark_43 rfl (lv_at hl 1 rfl) ?_
      refine lv_aload_n C.1 C.2.1 dX1_whyDark_44 rfl (lv_at hl 0 rfl) ?_
      refine lv_iload C.1 C.2.1 dX1_whyDark_45 (lv_at hl 4 rfl) ?_
      refine lv_iload_n C.1 C.2.1 dX1_whyDark_47 rfl (lv_at hl 2 rfl) ?_
      refine lv_bipush (v := 9) C.1 C.2.1 dX1_whyDark_48 (by decide) ?_
      refine lv_aload_n C.1 C.2.1 dX1_whyDark_50 rfl (lv_at hl 0 rfl) ?_
      refine gfX7 C G X (k := a1) hk_a1 14 (v := .ref (gB E + (a1 + 11))) rfl rfl (by decide) k_252 rfl dX1_whyDark_51 ?_
      refine lv_iload C.1 C.2.1 dX1_whyDark_54 (lv_at hl 4 rfl) ?_
      obtain ⟨r56, e56, h⟩ := bnd h
      refine afI X (runV C G X q_X6_get k_498 k_499 k_627 (rcX6 G X (kf_2_11 hk_a1)) (c_X6_get l E (kf_2_11 hk_a1) e56) rfl hl.1 rfl (Nat.le_of_ble_eq_true rfl) ⟨Nat.le_of_ble_eq_true rfl, Nat.le_of_ble_eq_true rfl⟩ ⟨Nat.le_of_ble_eq_true rfl, Nat.le_of_ble_eq_true rfl⟩ dX1_whyDark_56) (fun H locs X => ?_)
      obtain ⟨r59, σ59, e59, h⟩ := bnd2 h
      refine afI (r0 := r59) (σ' := σ59) X (runV C G X q_X3_letsLight k_534 k_535 k_628 (rcX3 G X hk_a2) (c_X3_letsLight l E hk_a2 hk_a1 e59) rfl hl.1 rfl (Nat.le_of_ble_eq_true rfl) ⟨Nat.le_of_ble_eq_true rfl, Nat.le_of_ble_eq_true rfl⟩ ⟨Nat.le_of_ble_eq_true rfl, Nat.le_of_ble_eq_true rfl⟩ dX1_whyDark_59) (fun H locs X => ?_)
      refine lv_if_eq (tgt := 75) C.1 C.2.1 dX1_whyDark_62 (by decide) (fun c62 => ?_) (fun c62 => ?_)
      · replace h := ipos c62 h
        refine lv_iinc (v := (x5 + 1)) (lv' := [(5, .int (x5 + 1)), (1, .ref (gB E + a1)), (2, .ref (gB E + a2)), (3, .int x3), (4, .int x4)]) C.1 C.2.1 dX1_whyDark_75 hl (k := 4) rfl rfl (by decide) rfl (fun ls hl => ?_)
        refine lv_goto (tgt := 34) C.1 C.2.1 dX1_whyDark_78 (by decide) ?_
        exact ih X hk_a1 hk_a2 (lv_sub hl [1, 2, 3, 4, 0] rfl) h
      · replace h := ineg c62 h
        refine lv_iload C.1 C.2.1 dX1_whyDark_65 (lv_at hl 3 rfl) ?_
        refine lv_iload C.1 C.2.1 dX1_whyDark_67 (lv_at hl 4 rfl) ?_
        obtain ⟨r69, e69, h⟩ := bnd h
        refine afI X (runN C G X q_X11_bit k_506 nw_11 (c_X11_bit l E e69) rfl hl.1 rfl (Nat.le_of_ble_eq_true rfl) ⟨Nat.le_of_ble_eq_true rfl, Nat.le_of_ble_eq_true rfl⟩ ⟨Nat.le_of_ble_eq_true rfl, Nat.le_of_ble_eq_true rfl⟩ dX1_whyDark_69) (fun H locs X => ?_)
        refine lv_ior C.1 C.2.1 dX1_whyDark_72 ?_
        refine lv_istore (lv' := [(4, .int (x4 ||| r69)), (1, .ref (gB E + a1)), (2, .ref (gB E + a2)), (3, .int x3), (5, .int x5)]) C.1 C.2.1 dX1_whyDark_73 hl (by decide) rfl (fun ls hl => ?_)
        refine lv_iinc (v := (x5 + 1)) (lv' := [(5, .int (x5 + 1)), (4, .int (x4 ||| r69)), (1, .ref (gB E + a1)), (2, .ref (gB E + a2)), (3, .int x3)]) C.1 C.2.1 dX1_whyDark_75 hl (k := 4) rfl rfl (by decide) rfl (fun ls hl => ?_)
        refine lv_goto (tgt := 34) C.1 C.2.1 dX1_whyDark_78 (by decide) ?_
        exact ih X hk_a1 hk_a2 (lv_sub hl [2, 3, 4, 1, 0] rfl) h

set_option maxRecDepth 20000 in
theorem w_X1_whyDark {r : (Int32 × Mem)} {σ : Mem} {a1 : Nat} {a2 : Nat} {x3 : Int32} {ls : Array Slot} {H : Heap} {locs : List Loc} (C : Cx p s m args meth c cX1_whyDark (some .int) 6 RX1) (G : Gf E s) (X : Hx E σ s H locs) (hk_a1 : kd a1 = 2) (hk_a2 : kd a2 = 3) (hl : lv_has ls 6 [(0, .ref (gB E + 396)), (1, .ref (gB E + a1)), (2, .ref (gB E + a2)), (3, .int x3)]) (h : X1_whyDark a1 a2 x3 σ = some r) : W p l e (RM 6) s m args below meth c H locs 0 0 (QI E below args s r.1 r.2) (F0 m 0 ls []) := by
  rw [X1_whyDark] at h
  refine lv_aload_n C.1 C.2.1 dX1_whyDark_0 rfl (lv_at hl 1 rfl) ?_
  refine lv_iload_n C.1 C.2.1 dX1_whyDark_1 rfl (lv_at hl 3 rfl) ?_
  obtain ⟨r2, e2, h⟩ := bnd h
  refine afI X (runV C G X q_X7_isBurning k_538 k_539 k_621 (rcX7 G X hk_a1) (c_X7_isBurning l E hk_a1 e2) rfl hl.1 rfl (Nat.le_of_ble_eq_true rfl) ⟨Nat.le_of_ble_eq_true rfl, Nat.le_of_ble_eq_true rfl⟩ ⟨Nat.le_of_ble_eq_true rfl, Nat.le_of_ble_eq_true rfl⟩ dX1_whyDark_2) (fun H locs X => ?_)
  refine lv_if_ne (tgt := 20) C.1 C.2.1 dX1_whyDark_5 (by decide) (fun c5 => ?_) (fun c5 => ?_)
  · replace h := ineg c5 h
    refine lv_iconst (v := 0) C.1 C.2.1 dX1_whyDark_20 (by decide) ?_
    rw [← Option.some.inj h]
    exact rtI C X dX1_whyDark_21
  · replace h := ipos c5 h
    refine lv_aload_n C.1 C.2.1 dX1_whyDark_8 rfl (lv_at hl 1 rfl) ?_
    refine gfX7 C G X (k := a1) hk_a1 10 (v := .ref (gB E + (a1 + 3))) rfl rfl (by decide) k_236 rfl dX1_whyDark_9 ?_
    refine lv_iload_n C.1 C.2.1 dX1_whyDark_12 rfl (lv_at hl 3 rfl) ?_
    obtain ⟨r13, e13, h⟩ := bnd h
    refine afI X (runV C G X q_X6_get k_498 k_499 k_627 (rcX6 G X (kf_2_3 hk_a1)) (c_X6_get l E (kf_2_3 hk_a1) e13) rfl hl.1 rfl (Nat.le_of_ble_eq_true rfl) ⟨Nat.le_of_ble_eq_true rfl, Nat.le_of_ble_eq_true rfl⟩ ⟨Nat.le_of_ble_eq_true rfl, Nat.le_of_ble_eq_true rfl⟩ dX1_whyDark_13) (fun H locs X => ?_)
    refine lv_iconst (v := -1) C.1 C.2.1 dX1_whyDark_16 (by decide) ?_
    refine lv_icmp_ne (tgt := 22) C.1 C.2.1 dX1_whyDark_17 (by decide) (fun c17 => ?_) (fun c17 => ?_)
    · replace h := ineg c17 h
      refine lv_aload_n C.1 C.2.1 dX1_whyDark_22 rfl (lv_at hl 0 rfl) ?_
      refine lv_aload_n C.1 C.2.1 dX1_whyDark_23 rfl (lv_at hl 1 rfl) ?_
      refine lv_aload_n C.1 C.2.1 dX1_whyDark_24 rfl (lv_at hl 2 rfl) ?_
      refine lv_iload_n C.1 C.2.1 dX1_whyDark_25 rfl (lv_at hl 3 rfl) ?_
      obtain ⟨r26, σ26, e26, h⟩ := bnd2 h
      refine afI (r0 := r26) (σ' := σ26) X (runV C G X q_X1_canLight k_623 k_624 k_622 (rcX1 G X kd_396) (c_X1_canLight l E hk_a1 hk_a2 e26) rfl hl.1 rfl (Nat.le_of_ble_eq_true rfl) ⟨Nat.le_of_ble_eq_true rfl, Nat.le_of_ble_eq_true rfl⟩ ⟨Nat.le_of_ble_eq_true rfl, Nat.le_of_ble_eq_true rfl⟩ dX1_whyDark_26) (fun H locs X => ?_)
      refine lv_istore (lv' := [(4, .int r26), (0, .ref (gB E + 396)), (1, .ref (gB E + a1)), (2, .ref (gB E + a2)), (3, .int x3)]) C.1 C.2.1 dX1_whyDark_29 hl (by decide) rfl (fun ls hl => ?_)
      refine lv_iconst (v := 0) C.1 C.2.1 dX1_whyDark_31 (by decide) ?_
      refine lv_istore (lv' := [(5, .int (0 : Int32)), (4, .int r26), (0, .ref (gB E + 396)), (1, .ref (gB E + a1)), (2, .ref (gB E + a2)), (3, .int x3)]) C.1 C.2.1 dX1_whyDark_32 hl (by decide) rfl (fun ls hl => ?_)
      exact w_X1_whyDark_34 C G FU X hk_a1 hk_a2 (lv_sub hl [3, 4, 5, 1, 0] rfl) h
    · replace h := ipos c17 h
      refine lv_iconst (v := 0) C.1 C.2.1 dX1_whyDark_20 (by decide) ?_
      rw [← Option.some.inj h]
      exact rtI C X dX1_whyDark_21

theorem c_X1_whyDark (l : Launch) (E : GE) {σ : Mem} {a1 : Nat} {a2 : Nat} {x3 : Int32} (hk_a1 : kd a1 = 2) (hk_a2 : kd a2 = 3) {r : (Int32 × Mem)} (h : X1_whyDark a1 a2 x3 σ = some r) : CtI l E yX1_whyDark cX1_whyDark 6 .int 6 [.ref (gB E + 396), .ref (gB E + a1), .ref (gB E + a2), .int x3] σ r.1 r.2 := by
  refine Met.ofW (cc := cX1_whyDark) (maxL := 6) (ret := (some .int)) (by decide) rfl ?_
  intro p e s m args below meth c s₁ B hml hv
  obtain ⟨rfl, G, X⟩ := start hv
  have C := cxof B hml
  have hl := lv_entry [.ref (gB E + 396), .ref (gB E + a1), .ref (gB E + a2), .int x3] (n := 6) (Nat.le_of_ble_eq_true rfl)
  rw [lg_entry_eq]
  generalize (lg_sl [.ref (gB E + 396), .ref (gB E + a1), .ref (gB E + a2), .int x3] ++ List.replicate (6 - (lg_sl [.ref (gB E + 396), .ref (gB E + a1), .ref (gB E + a2), .int x3]).length) Slot.unset).toArray = ls at hl ⊢
  exact w_X1_whyDark C G X hk_a1 hk_a2 hl h

set_option maxRecDepth 20000 in
theorem w_X11_pane {r : ((Int32 ⊕ Nat) × Mem)} {σ : Mem} {x1 : Int32} {x2 : Int32} {ls : Array Slot} {H : Heap} {locs : List Loc} (C : Cx p s m args meth c cX11_pane (some .int) 3 RX11) (G : Gf E s) (T0 : ∀ x ∈ c.exceptionTable.toList, False) (hT : l.stackTraces = false) (X : Hx E σ s H locs) (hl : lv_has ls 3 [(0, .ref (gB E + 0)), (1, .int x1), (2, .int x2)]) (h : X11_pane x1 x2 σ = some r) : W p l e (RX 13 2) s m args below meth c H locs 0 0 (QX E below args s 2 r.1 r.2) (F0 m 0 ls []) := by
  rw [X11_pane] at h
  refine lv_aload_n C.1 C.2.1 dX11_pane_0 rfl (lv_at hl 0 rfl) ?_
  refine lv_iload_n C.1 C.2.1 dX11_pane_1 rfl (lv_at hl 1 rfl) ?_
  rcases bndx h with ⟨r2, e2, h⟩ | ⟨x2_, e2, h⟩
  · refine axV X (runXV C G X q_X11_needPane k_1164 kp_11 k_1162 (rcX11 G X kd_0) (c_X11_needPane l E hT e2) rfl hl.1 rfl (Nat.le_of_ble_eq_true rfl) ⟨Nat.le_of_ble_eq_true rfl, Nat.le_of_ble_eq_true rfl⟩ ⟨Nat.le_of_ble_eq_true rfl, Nat.le_of_ble_eq_true rfl⟩ dX11_pane_2) (fun r9 H locs er X => ?_) (fun x9 H locs q9 ce er X hz hv hcl => nomatch er)
    refine lv_iload_n C.1 C.2.1 dX11_pane_5 rfl (lv_at hl 2 rfl) ?_
    by_cases c6_100 : x2 = (0 : Int32)
    · replace h := ipos c6_100 h
      refine lv_tableIn (off := 46) (tgt := 52) C.1 C.2.1 dX11_pane_6 (by rw [c6_100]; decide) (by rw [c6_100]; decide) (by rw [c6_100]; decide) (by decide) ?_
      refine lv_aload_n C.1 C.2.1 dX11_pane_52 rfl (lv_at hl 0 rfl) ?_
      refine gfX11 C G X (k := 0) kd_0 1 (v := .ref (gB E + 9)) rfl rfl (by decide) k_406 rfl dX11_pane_53 ?_
      refine gfX7 C G X (k := 9) kd_9 9 (v := .ref (gB E + 10)) rfl rfl (by decide) k_234 rfl dX11_pane_56 ?_
      refine lv_iload_n C.1 C.2.1 dX11_pane_59 rfl (lv_at hl 1 rfl) ?_
      obtain ⟨r60, e60, h⟩ := bnd h
      refine afI X (runV C G X q_X6_get k_498 k_499 k_1182 (rcX6 G X kd_10) (c_X6_get l E kd_10 e60) rfl hl.1 rfl (Nat.le_of_ble_eq_true rfl) ⟨Nat.le_of_ble_eq_true rfl, Nat.le_of_ble_eq_true rfl⟩ ⟨Nat.le_of_ble_eq_true rfl, Nat.le_of_ble_eq_true rfl⟩ dX11_pane_60) (fun H locs X => ?_)
      refine W.widen (k := 2) (n := 12) (Nat.le_of_ble_eq_true rfl) (Nat.le_of_ble_eq_true rfl) ?_
      rw [← Option.some.inj h]
      exact vx_ret (rtxI C X dX11_pane_63)
    · replace h := ineg c6_100 h
      have n6_100 := lv_neT c6_100 (a := 0) (by decide)
      by_cases c6_101 : x2 = (1 : Int32)
      · replace h := ipos c6_101 h
        refine lv_tableIn (off := 58) (tgt := 64) C.1 C.2.1 dX11_pane_6 (by rw [c6_101]; decide) (by rw [c6_101]; decide) (by rw [c6_101]; decide) (by decide) ?_
        refine lv_aload_n C.1 C.2.1 dX11_pane_64 rfl (lv_at hl 0 rfl) ?_
        refine gfX11 C G X (k := 0) kd_0 1 (v := .ref (gB E + 9)) rfl rfl (by decide) k_406 rfl dX11_pane_65 ?_
        refine lv_iload_n C.1 C.2.1 dX11_pane_68 rfl (lv_at hl 1 rfl) ?_
        obtain ⟨r69, e69, h⟩ := bnd h
        refine afI X (runV C G X q_X7_isBurning k_538 k_539 k_1183 (rcX7 G X kd_9) (c_X7_isBurning l E kd_9 e69) rfl hl.1 rfl (Nat.le_of_ble_eq_true rfl) ⟨Nat.le_of_ble_eq_true rfl, Nat.le_of_ble_eq_true rfl⟩ ⟨Nat.le_of_ble_eq_true rfl, Nat.le_of_ble_eq_true rfl⟩ dX11_pane_69) (fun H locs X => ?_)
        refine lv_if_eq (tgt := 79) C.1 C.2.1 dX11_pane_72 (by decide) (fun c72 => ?_) (fun c72 => ?_)
        · replace h := ipos c72 h
          refine lv_iconst (v := 0) C.1 C.2.1 dX11_pane_79 (by decide) ?_
          refine W.widen (k := 2) (n := 12) (Nat.le_of_ble_eq_true rfl) (Nat.le_of_ble_eq_true rfl) ?_
          rw [← Option.some.inj h]
          exact vx_ret (rtxI C X dX11_pane_80)
        · replace h := ineg c72 h
          refine lv_iconst (v := 1) C.1 C.2.1 dX11_pane_75 (by decide) ?_
          refine lv_goto (tgt := 80) C.1 C.2.1 dX11_pane_76 (by decide) ?_
          refine W.widen (k := 2) (n := 12) (Nat.le_of_ble_eq_true rfl) (Nat.le_of_ble_eq_true rfl) ?_
          rw [← Option.some.inj h]
          exact vx_ret (rtxI C X dX11_pane_80)
      · replace h := ineg c6_101 h
        have n6_101 := lv_neT c6_101 (a := 1) (by decide)
        by_cases c6_102 : x2 = (2 : Int32)
        · replace h := ipos c6_102 h
          refine lv_tableIn (off := 75) (tgt := 81) C.1 C.2.1 dX11_pane_6 (by rw [c6_102]; decide) (by rw [c6_102]; decide) (by rw [c6_102]; decide) (by decide) ?_
          refine lv_aload_n C.1 C.2.1 dX11_pane_81 rfl (lv_at hl 0 rfl) ?_
          refine gfX11 C G X (k := 0) kd_0 1 (v := .ref (gB E + 9)) rfl rfl (by decide) k_406 rfl dX11_pane_82 ?_
          refine gfX7 C G X (k := 9) kd_9 10 (v := .ref (gB E + 12)) rfl rfl (by decide) k_238 rfl dX11_pane_85 ?_
          refine lv_iload_n C.1 C.2.1 dX11_pane_88 rfl (lv_at hl 1 rfl) ?_
          obtain ⟨r89, e89, h⟩ := bnd h
          refine afI X (runV C G X q_X6_get k_498 k_499 k_1182 (rcX6 G X kd_12) (c_X6_get l E kd_12 e89) rfl hl.1 rfl (Nat.le_of_ble_eq_true rfl) ⟨Nat.le_of_ble_eq_true rfl, Nat.le_of_ble_eq_true rfl⟩ ⟨Nat.le_of_ble_eq_true rfl, Nat.le_of_ble_eq_true rfl⟩ dX11_pane_89) (fun H locs X => ?_)
          refine W.widen (k := 2) (n := 12) (Nat.le_of_ble_eq_true rfl) (Nat.le_of_ble_eq_true rfl) ?_
          rw [← Option.some.inj h]
          exact vx_ret (rtxI C X dX11_pane_92)
        · replace h := ineg c6_102 h
          have n6_102 := lv_neT c6_102 (a := 2) (by decide)
          by_cases c6_103 : x2 = (3 : Int32)
          · replace h := ipos c6_103 h
            refine lv_tableIn (off := 87) (tgt := 93) C.1 C.2.1 dX11_pane_6 (by rw [c6_103]; decide) (by rw [c6_103]; decide) (by rw [c6_103]; decide) (by decide) ?_
            refine lv_aload_n C.1 C.2.1 dX11_pane_93 rfl (lv_at hl 0 rfl) ?_
            refine gfX11 C G X (k := 0) kd_0 1 (v := .ref (gB E + 9)) rfl rfl (by decide) k_406 rfl dX11_pane_94 ?_
            refine gfX7 C G X (k := 9) kd_9 11 (v := .ref (gB E + 14)) rfl rfl (by decide) k_243 rfl dX11_pane_97 ?_
            refine lv_iload_n C.1 C.2.1 dX11_pane_100 rfl (lv_at hl 1 rfl) ?_
            obtain ⟨r101, e101, h⟩ := bnd h
            refine afI X (runV C G X q_X6_get k_498 k_499 k_1182 (rcX6 G X kd_14) (c_X6_get l E kd_14 e101) rfl hl.1 rfl (Nat.le_of_ble_eq_true rfl) ⟨Nat.le_of_ble_eq_true rfl, Nat.le_of_ble_eq_true rfl⟩ ⟨Nat.le_of_ble_eq_true rfl, Nat.le_of_ble_eq_true rfl⟩ dX11_pane_101) (fun H locs X => ?_)
            refine W.widen (k := 2) (n := 12) (Nat.le_of_ble_eq_true rfl) (Nat.le_of_ble_eq_true rfl) ?_
            rw [← Option.some.inj h]
            exact vx_ret (rtxI C X dX11_pane_104)
          · replace h := ineg c6_103 h
            have n6_103 := lv_neT c6_103 (a := 3) (by decide)
            by_cases c6_104 : x2 = (4 : Int32)
            · replace h := ipos c6_104 h
              refine lv_tableIn (off := 99) (tgt := 105) C.1 C.2.1 dX11_pane_6 (by rw [c6_104]; decide) (by rw [c6_104]; decide) (by rw [c6_104]; decide) (by decide) ?_
              refine lv_aload_n C.1 C.2.1 dX11_pane_105 rfl (lv_at hl 0 rfl) ?_
              refine gfX11 C G X (k := 0) kd_0 11 (v := .ref (gB E + 396)) rfl rfl (by decide) k_416 rfl dX11_pane_106 ?_
              refine lv_aload_n C.1 C.2.1 dX11_pane_109 rfl (lv_at hl 0 rfl) ?_
              refine gfX11 C G X (k := 0) kd_0 1 (v := .ref (gB E + 9)) rfl rfl (by decide) k_406 rfl dX11_pane_110 ?_
              refine lv_aload_n C.1 C.2.1 dX11_pane_113 rfl (lv_at hl 0 rfl) ?_
              refine gfX11 C G X (k := 0) kd_0 4 (v := .ref (gB E + 72)) rfl rfl (by decide) k_409 rfl dX11_pane_114 ?_
              refine lv_iload_n C.1 C.2.1 dX11_pane_117 rfl (lv_at hl 1 rfl) ?_
              obtain ⟨r118, σ118, e118, h⟩ := bnd2 h
              refine afI (r0 := r118) (σ' := σ118) X (runV C G X q_X1_canLight k_623 k_624 k_1184 (rcX1 G X kd_396) (c_X1_canLight l E kd_9 kd_72 e118) rfl hl.1 rfl (Nat.le_of_ble_eq_true rfl) ⟨Nat.le_of_ble_eq_true rfl, Nat.le_of_ble_eq_true rfl⟩ ⟨Nat.le_of_ble_eq_true rfl, Nat.le_of_ble_eq_true rfl⟩ dX11_pane_118) (fun H locs X => ?_)
              refine W.widen (k := 2) (n := 12) (Nat.le_of_ble_eq_true rfl) (Nat.le_of_ble_eq_true rfl) ?_
              rw [← Option.some.inj h]
              exact vx_ret (rtxI C X dX11_pane_121)
            · replace h := ineg c6_104 h
              have n6_104 := lv_neT c6_104 (a := 4) (by decide)
              by_cases c6_105 : x2 = (5 : Int32)
              · replace h := ipos c6_105 h
                refine lv_tableIn (off := 116) (tgt := 122) C.1 C.2.1 dX11_pane_6 (by rw [c6_105]; decide) (by rw [c6_105]; decide) (by rw [c6_105]; decide) (by decide) ?_
                refine lv_aload_n C.1 C.2.1 dX11_pane_122 rfl (lv_at hl 0 rfl) ?_
                refine gfX11 C G X (k := 0) kd_0 9 (v := .ref (gB E + 365)) rfl rfl (by decide) k_414 rfl dX11_pane_123 ?_
                refine lv_aload_n C.1 C.2.1 dX11_pane_126 rfl (lv_at hl 0 rfl) ?_
                refine gfX11 C G X (k := 0) kd_0 1 (v := .ref (gB E + 9)) rfl rfl (by decide) k_406 rfl dX11_pane_127 ?_
                refine lv_aload_n C.1 C.2.1 dX11_pane_130 rfl (lv_at hl 0 rfl) ?_
                refine gfX11 C G X (k := 0) kd_0 4 (v := .ref (gB E + 72)) rfl rfl (by decide) k_409 rfl dX11_pane_131 ?_
                refine lv_iload_n C.1 C.2.1 dX11_pane_134 rfl (lv_at hl 1 rfl) ?_
                obtain ⟨r135, σ135, e135, h⟩ := bnd2 h
                refine afI (r0 := r135) (σ' := σ135) X (runV C G X q_X0_firstBurning k_1186 k_1187 k_1185 (rcX0 G X kd_365) (c_X0_firstBurning l E kd_9 kd_72 e135) rfl hl.1 rfl (Nat.le_of_ble_eq_true rfl) ⟨Nat.le_of_ble_eq_true rfl, Nat.le_of_ble_eq_true rfl⟩ ⟨Nat.le_of_ble_eq_true rfl, Nat.le_of_ble_eq_true rfl⟩ dX11_pane_135) (fun H locs X => ?_)
                refine W.widen (k := 2) (n := 12) (Nat.le_of_ble_eq_true rfl) (Nat.le_of_ble_eq_true rfl) ?_
                rw [← Option.some.inj h]
                exact vx_ret (rtxI C X dX11_pane_138)
              · replace h := ineg c6_105 h
                have n6_105 := lv_neT c6_105 (a := 5) (by decide)
                by_cases c6_106 : x2 = (6 : Int32)
                · replace h := ipos c6_106 h
                  refine lv_tableIn (off := 133) (tgt := 139) C.1 C.2.1 dX11_pane_6 (by rw [c6_106]; decide) (by rw [c6_106]; decide) (by rw [c6_106]; decide) (by decide) ?_
                  refine lv_aload_n C.1 C.2.1 dX11_pane_139 rfl (lv_at hl 0 rfl) ?_
                  refine gfX11 C G X (k := 0) kd_0 11 (v := .ref (gB E + 396)) rfl rfl (by decide) k_416 rfl dX11_pane_140 ?_
                  refine lv_aload_n C.1 C.2.1 dX11_pane_143 rfl (lv_at hl 0 rfl) ?_
                  refine gfX11 C G X (k := 0) kd_0 1 (v := .ref (gB E + 9)) rfl rfl (by decide) k_406 rfl dX11_pane_144 ?_
                  refine lv_aload_n C.1 C.2.1 dX11_pane_147 rfl (lv_at hl 0 rfl) ?_
                  refine gfX11 C G X (k := 0) kd_0 4 (v := .ref (gB E + 72)) rfl rfl (by decide) k_409 rfl dX11_pane_148 ?_
                  refine lv_iload_n C.1 C.2.1 dX11_pane_151 rfl (lv_at hl 1 rfl) ?_
                  obtain ⟨r152, σ152, e152, h⟩ := bnd2 h
                  refine afI (r0 := r152) (σ' := σ152) X (runV C G X q_X1_whyDark k_677 k_678 k_1190 (rcX1 G X kd_396) (c_X1_whyDark l E kd_9 kd_72 e152) rfl hl.1 rfl (Nat.le_of_ble_eq_true rfl) ⟨Nat.le_of_ble_eq_true rfl, Nat.le_of_ble_eq_true rfl⟩ ⟨Nat.le_of_ble_eq_true rfl, Nat.le_of_ble_eq_true rfl⟩ dX11_pane_152) (fun H locs X => ?_)
                  refine W.widen (k := 2) (n := 12) (Nat.le_of_ble_eq_true rfl) (Nat.le_of_ble_eq_true rfl) ?_
                  rw [← Option.some.inj h]
                  exact vx_ret (rtxI C X dX11_pane_155)
                · replace h := ineg c6_106 h
                  have n6_106 := lv_neT c6_106 (a := 6) (by decide)
                  by_cases c6_107 : x2 = (7 : Int32)
                  · replace h := ipos c6_107 h
                    refine lv_tableIn (off := 150) (tgt := 156) C.1 C.2.1 dX11_pane_6 (by rw [c6_107]; decide) (by rw [c6_107]; decide) (by rw [c6_107]; decide) (by decide) ?_
                    refine lv_aload_n C.1 C.2.1 dX11_pane_156 rfl (lv_at hl 0 rfl) ?_
                    refine gfX11 C G X (k := 0) kd_0 1 (v := .ref (gB E + 9)) rfl rfl (by decide) k_406 rfl dX11_pane_157 ?_
                    refine lv_iload_n C.1 C.2.1 dX11_pane_160 rfl (lv_at hl 1 rfl) ?_
                    obtain ⟨r161, e161, h⟩ := bnd h
                    refine afI X (runV C G X q_X7_isBurning k_538 k_539 k_1183 (rcX7 G X kd_9) (c_X7_isBurning l E kd_9 e161) rfl hl.1 rfl (Nat.le_of_ble_eq_true rfl) ⟨Nat.le_of_ble_eq_true rfl, Nat.le_of_ble_eq_true rfl⟩ ⟨Nat.le_of_ble_eq_true rfl, Nat.le_of_ble_eq_true rfl⟩ dX11_pane_161) (fun H locs X => ?_)
                    refine lv_if_eq (tgt := 181) C.1 C.2.1 dX11_pane_164 (by decide) (fun c164 => ?_) (fun c164 => ?_)
                    · replace h := ipos c164 h
                      refine lv_iconst (v := 0) C.1 C.2.1 dX11_pane_181 (by decide) ?_
                      refine W.widen (k := 2) (n := 12) (Nat.le_of_ble_eq_true rfl) (Nat.le_of_ble_eq_true rfl) ?_
                      rw [← Option.some.inj h]
                      exact vx_ret (rtxI C X dX11_pane_182)
                    · replace h := ineg c164 h
                      refine lv_aload_n C.1 C.2.1 dX11_pane_167 rfl (lv_at hl 0 rfl) ?_
                      refine gfX11 C G X (k := 0) kd_0 1 (v := .ref (gB E + 9)) rfl rfl (by decide) k_406 rfl dX11_pane_168 ?_
                      refine gfX7 C G X (k := 9) kd_9 9 (v := .ref (gB E + 10)) rfl rfl (by decide) k_234 rfl dX11_pane_171 ?_
                      refine lv_iload_n C.1 C.2.1 dX11_pane_174 rfl (lv_at hl 1 rfl) ?_
                      obtain ⟨r175, e175, h⟩ := bnd h
                      refine afI X (runV C G X q_X6_get k_498 k_499 k_1182 (rcX6 G X kd_10) (c_X6_get l E kd_10 e175) rfl hl.1 rfl (Nat.le_of_ble_eq_true rfl) ⟨Nat.le_of_ble_eq_true rfl, Nat.le_of_ble_eq_true rfl⟩ ⟨Nat.le_of_ble_eq_true rfl, Nat.le_of_ble_eq_true rfl⟩ dX11_pane_175) (fun H locs X => ?_)
                      refine lv_goto (tgt := 182) C.1 C.2.1 dX11_pane_178 (by decide) ?_
                      refine W.widen (k := 2) (n := 12) (Nat.le_of_ble_eq_true rfl) (Nat.le_of_ble_eq_true rfl) ?_
                      rw [← Option.some.inj h]
                      exact vx_ret (rtxI C X dX11_pane_182)
                  · replace h := ineg c6_107 h
                    have n6_107 := lv_neT c6_107 (a := 7) (by decide)
                    refine lv_tableOut (tgt := 183) C.1 C.2.1 dX11_pane_6 (by omega) (by decide) ?_
                    rw [← Option.some.inj h]
                    exact thS13 C G X T0 hT (x := 4) (cls := "java/util/NoSuchElementException") (text := "a pane has no such thing") (ik := 161) (is := 163) (ic := 165) rfl k_1191 k_130 (by decide +kernel) (by decide +kernel) hl.1 dX11_pane_183 dX11_pane_186 dX11_pane_187 dX11_pane_189 dX11_pane_192 (Nat.le_of_ble_eq_true rfl) (Nat.le_of_ble_eq_true rfl) (Nat.le_of_ble_eq_true rfl) (Nat.le_of_ble_eq_true rfl)
  · refine axV X (runXV C G X q_X11_needPane k_1164 kp_11 k_1162 (rcX11 G X kd_0) (c_X11_needPane l E hT e2) rfl hl.1 rfl (Nat.le_of_ble_eq_true rfl) ⟨Nat.le_of_ble_eq_true rfl, Nat.le_of_ble_eq_true rfl⟩ ⟨Nat.le_of_ble_eq_true rfl, Nat.le_of_ble_eq_true rfl⟩ dX11_pane_2) (fun r9 H locs er X => nomatch er) (fun x9 H locs q9 ce er X hz hv hcl => ?_)
    rw [← Sum.inr.inj er] at hcl
    rw [← Option.some.inj h]
    exact xout C X T0 hz hv hcl (Nat.le_of_ble_eq_true rfl) (Nat.le_of_ble_eq_true rfl)

theorem c_X11_pane (l : Launch) (E : GE) (hT : l.stackTraces = false) {σ : Mem} {x1 : Int32} {x2 : Int32} {r : ((Int32 ⊕ Nat) × Mem)} (h : X11_pane x1 x2 σ = some r) : CtX l E yX11_pane cX11_pane 3 .int 13 2 [.ref (gB E + 0), .int x1, .int x2] σ r.1 r.2 := by
  refine vx_ofW (cc := cX11_pane) (maxL := 3) (ret := (some .int)) (by decide) rfl ?_
  intro p e s m args below meth c s₁ B hml T0 hv
  obtain ⟨rfl, G, X⟩ := start hv
  have C := cxof B hml
  have hl := lv_entry [.ref (gB E + 0), .int x1, .int x2] (n := 3) (Nat.le_of_ble_eq_true rfl)
  rw [lg_entry_eq]
  generalize (lg_sl [.ref (gB E + 0), .int x1, .int x2] ++ List.replicate (3 - (lg_sl [.ref (gB E + 0), .int x1, .int x2]).length) Slot.unset).toArray = ls at hl ⊢
  exact w_X11_pane C G T0 hT X hl h

set_option maxRecDepth 20000 in
theorem w_X11_needWalker_15 {r : (Int32 ⊕ Nat)} {σ : Mem} {ls : Array Slot} {H : Heap} {locs : List Loc} (C : Cx p s m args meth c cX11_needWalker none 2 RX11) (G : Gf E s) (T0 : ∀ x ∈ c.exceptionTable.toList, False) (hT : l.stackTraces = false) (X : Hx E σ s H locs) (hl : lv_has ls 2 []) (h : X11_needWalker_15 σ = some r) : W p l e (RX 12 1) s m args below meth c H locs 0 0 (QXV E below args s 1 r σ) (F0 m 15 ls []) := by
  rw [X11_needWalker_15] at h
  rw [← Option.some.inj h]
  exact thSWV C G X T0 hT (x := 1) (cls := "java/lang/IndexOutOfBoundsException") (text := "there is no such walker") (ik := 440) (is := 445) (ic := 444) rfl k_1166 k_129 (by decide +kernel) (by decide +kernel) hl.1 dX11_needWalker_15 dX11_needWalker_18 dX11_needWalker_19 dX11_needWalker_22 dX11_needWalker_25 (Nat.le_of_ble_eq_true rfl) (Nat.le_of_ble_eq_true rfl) (Nat.le_of_ble_eq_true rfl) (Nat.le_of_ble_eq_true rfl)

set_option maxRecDepth 20000 in
theorem w_X11_needWalker {r : (Int32 ⊕ Nat)} {σ : Mem} {x1 : Int32} {ls : Array Slot} {H : Heap} {locs : List Loc} (C : Cx p s m args meth c cX11_needWalker none 2 RX11) (G : Gf E s) (T0 : ∀ x ∈ c.exceptionTable.toList, False) (hT : l.stackTraces = false) (X : Hx E σ s H locs) (hl : lv_has ls 2 [(0, .ref (gB E + 0)), (1, .int x1)]) (h : X11_needWalker σ x1 = some r) : W p l e (RX 12 1) s m args below meth c H locs 0 0 (QXV E below args s 1 r σ) (F0 m 0 ls []) := by
  rw [X11_needWalker] at h
  refine lv_iload_n C.1 C.2.1 dX11_needWalker_0 rfl (lv_at hl 1 rfl) ?_
  refine lv_if_lt (tgt := 15) C.1 C.2.1 dX11_needWalker_1 (by decide) (fun c1 => ?_) (fun c1 => ?_)
  · replace h := ipos c1 h
    exact w_X11_needWalker_15 C G T0 hT X (lv_sub hl [] rfl) h
  · replace h := ineg c1 h
    refine lv_iload_n C.1 C.2.1 dX11_needWalker_4 rfl (lv_at hl 1 rfl) ?_
    refine lv_aload_n C.1 C.2.1 dX11_needWalker_5 rfl (lv_at hl 0 rfl) ?_
    refine gfX11 C G X (k := 0) kd_0 1 (v := .ref (gB E + 9)) rfl rfl (by decide) k_406 rfl dX11_needWalker_6 ?_
    refine gfX7 C G X (k := 9) kd_9 1 (v := .int (σ 9 1)) rfl rfl (by decide) k_208 rfl dX11_needWalker_9 ?_
    refine lv_icmp_lt (tgt := 26) C.1 C.2.1 dX11_needWalker_12 (by decide) (fun c12 => ?_) (fun c12 => ?_)
    · replace h := ipos c12 h
      refine W.widen (k := 1) (n := 6) (Nat.le_of_ble_eq_true rfl) (Nat.le_of_ble_eq_true rfl) ?_
      rw [← Option.some.inj h]
      exact vx_ret (rtxV C X dX11_needWalker_26)
    · replace h := ineg c12 h
      exact w_X11_needWalker_15 C G T0 hT X (lv_sub hl [] rfl) h

theorem c_X11_needWalker (l : Launch) (E : GE) (hT : l.stackTraces = false) {σ : Mem} {x1 : Int32} {r : (Int32 ⊕ Nat)} (h : X11_needWalker σ x1 = some r) : CtXV l E yX11_needWalker cX11_needWalker 2 12 1 [.ref (gB E + 0), .int x1] σ r σ := by
  refine vx_ofW (cc := cX11_needWalker) (maxL := 2) (ret := none) (by decide) rfl ?_
  intro p e s m args below meth c s₁ B hml T0 hv
  obtain ⟨rfl, G, X⟩ := start hv
  have C := cxof B hml
  have hl := lv_entry [.ref (gB E + 0), .int x1] (n := 2) (Nat.le_of_ble_eq_true rfl)
  rw [lg_entry_eq]
  generalize (lg_sl [.ref (gB E + 0), .int x1] ++ List.replicate (2 - (lg_sl [.ref (gB E + 0), .int x1]).length) Slot.unset).toArray = ls at hl ⊢
  exact w_X11_needWalker C G T0 hT X hl h

set_option maxRecDepth 20000 in
theorem w_X7_reached_10 {r : Int32} {σ : Mem} (C : Cx p s m args meth c cX7_reached (some .int) 5 RX7) (G : Gf E s) : ∀ (f : Nat) {a0 : Nat} {x2 : Int32} {x3 : Int32} {x4 : Int32} {ls : Array Slot} {H : Heap} {locs : List Loc}, Hx E σ s H locs → kd a0 = 2 → lv_has ls 5 [(0, .ref (gB E + a0)), (2, .int x2), (3, .int x3), (4, .int x4)] → X7_reached_10 σ f a0 x2 x3 x4 = some r → W p l e (RM 3) s m args below meth c H locs 0 0 (QI E below args s r σ) (F0 m 10 ls []) := by
  intro f
  induction f with
  | zero =>
    intro a0 x2 x3 x4 ls H locs X hk_a0 hl h
    rw [X7_reached_10] at h
    cases h
  | succ f ih =>
    intro a0 x2 x3 x4 ls H locs X hk_a0 hl h
    rw [X7_reached_10] at h
    refine lv_iload C.1 C.2.1 dX7_reached_10 (lv_at hl 3 rfl) ?_
    refine lv_bipush (v := 9) C.1 C.2.1 dX7_reached_12 (by decide) ?_
    refine lv_icmp_ge (tgt := 33) C.1 C.2.1 dX7_reached_14 (by decide) (fun c14 => ?_) (fun c14 => ?_)
    · replace h := ipos c14 h
      refine lv_iload_n C.1 C.2.1 dX7_reached_33 rfl (lv_at hl 2 rfl) ?_
      rw [← Option.some.inj h]
      exact rtI C X dX7_reached_34
    · replace h := ineg c14 h
      refine lv_iload_n C.1 C.2.1 dX7_reached_17 rfl (lv_at hl 2 rfl) ?_
      refine lv_aload_n C.1 C.2.1 dX7_reached_18 rfl (lv_at hl 0 rfl) ?_
      refine lv_iload_n C.1 C.2.1 dX7_reached_19 rfl (lv_at hl 2 rfl) ?_
      obtain ⟨r20, e20, h⟩ := bnd h
      refine afI X (runV C G X q_X7_around k_512 k_513 k_511 (rcX7 G X hk_a0) (c_X7_around l E hk_a0 e20) rfl hl.1 rfl (Nat.le_of_ble_eq_true rfl) ⟨Nat.le_of_ble_eq_true rfl, Nat.le_of_ble_eq_true rfl⟩ ⟨Nat.le_of_ble_eq_true rfl, Nat.le_of_ble_eq_true rfl⟩ dX7_reached_20) (fun H locs X => ?_)
      refine lv_iload_n C.1 C.2.1 dX7_reached_23 rfl (lv_at hl 1 rfl) ?_
      refine lv_iand C.1 C.2.1 dX7_reached_24 ?_
      refine lv_ior C.1 C.2.1 dX7_reached_25 ?_
      refine lv_istore_n (lv' := [(3, .int (x3 ||| (r20 &&& x2))), (0, .ref (gB E + a0)), (2, .int x2), (4, .int x4)]) C.1 C.2.1 dX7_reached_26 rfl hl (by decide) rfl (fun ls hl => ?_)
      refine lv_iinc (v := (x4 + 1)) (lv' := [(4, .int (x4 + 1)), (3, .int (x3 ||| (r20 &&& x2))), (0, .ref (gB E + a0)), (2, .int x2)]) C.1 C.2.1 dX7_reached_27 hl (k := 3) rfl rfl (by decide) rfl (fun ls hl => ?_)
      refine lv_goto (tgt := 10) C.1 C.2.1 dX7_reached_30 (by decide) ?_
      exact ih X hk_a0 (lv_sub hl [2, 3, 1, 0] rfl) h

set_option maxRecDepth 20000 in
theorem w_X7_reached {r : Int32} {σ : Mem} {a0 : Nat} {x1 : Int32} {x2 : Int32} {ls : Array Slot} {H : Heap} {locs : List Loc} (C : Cx p s m args meth c cX7_reached (some .int) 5 RX7) (G : Gf E s) (X : Hx E σ s H locs) (hk_a0 : kd a0 = 2) (hl : lv_has ls 5 [(0, .ref (gB E + a0)), (1, .int x1), (2, .int x2)]) (h : X7_reached σ a0 x1 x2 = some r) : W p l e (RM 3) s m args below meth c H locs 0 0 (QI E below args s r σ) (F0 m 0 ls []) := by
  rw [X7_reached] at h
  refine lv_iload_n C.1 C.2.1 dX7_reached_0 rfl (lv_at hl 1 rfl) ?_
  obtain ⟨r1, e1, h⟩ := bnd h
  refine afI X (runN C G X q_X11_bit k_506 nw_8 (c_X11_bit l E e1) rfl hl.1 rfl (Nat.le_of_ble_eq_true rfl) ⟨Nat.le_of_ble_eq_true rfl, Nat.le_of_ble_eq_true rfl⟩ ⟨Nat.le_of_ble_eq_true rfl, Nat.le_of_ble_eq_true rfl⟩ dX7_reached_1) (fun H locs X => ?_)
  refine lv_iload_n C.1 C.2.1 dX7_reached_4 rfl (lv_at hl 2 rfl) ?_
  refine lv_iand C.1 C.2.1 dX7_reached_5 ?_
  refine lv_istore_n (lv' := [(3, .int (r1 &&& x2)), (0, .ref (gB E + a0)), (1, .int x1), (2, .int x2)]) C.1 C.2.1 dX7_reached_6 rfl hl (by decide) rfl (fun ls hl => ?_)
  refine lv_iconst (v := 0) C.1 C.2.1 dX7_reached_7 (by decide) ?_
  refine lv_istore (lv' := [(4, .int (0 : Int32)), (3, .int (r1 &&& x2)), (0, .ref (gB E + a0)), (1, .int x1), (2, .int x2)]) C.1 C.2.1 dX7_reached_8 hl (by decide) rfl (fun ls hl => ?_)
  exact w_X7_reached_10 C G FU X hk_a0 (lv_sub hl [2, 4, 1, 0] rfl) h

theorem c_X7_reached (l : Launch) (E : GE) {σ : Mem} {a0 : Nat} {x1 : Int32} {x2 : Int32} (hk_a0 : kd a0 = 2) {r : Int32} (h : X7_reached σ a0 x1 x2 = some r) : CtI l E yX7_reached cX7_reached 5 .int 3 [.ref (gB E + a0), .int x1, .int x2] σ r σ := by
  refine Met.ofW (cc := cX7_reached) (maxL := 5) (ret := (some .int)) (by decide) rfl ?_
  intro p e s m args below meth c s₁ B hml hv
  obtain ⟨rfl, G, X⟩ := start hv
  have C := cxof B hml
  have hl := lv_entry [.ref (gB E + a0), .int x1, .int x2] (n := 5) (Nat.le_of_ble_eq_true rfl)
  rw [lg_entry_eq]
  generalize (lg_sl [.ref (gB E + a0), .int x1, .int x2] ++ List.replicate (5 - (lg_sl [.ref (gB E + a0), .int x1, .int x2]).length) Slot.unset).toArray = ls at hl ⊢
  exact w_X7_reached C G X hk_a0 hl h

set_option maxRecDepth 20000 in
theorem w_X1_tapersFor_35 {r : (Int32 × Mem)} (C : Cx p s m args meth c cX1_tapersFor (some .int) 9 RX1) (G : Gf E s) : ∀ (f : Nat) {a1 : Nat} {a2 : Nat} {x3 : Int32} {x4 : Int32} {x5 : Int32} {x6 : Int32} {x7 : Int32} {σ : Mem} {ls : Array Slot} {H : Heap} {locs : List Loc}, Hx E σ s H locs → kd a1 = 2 → kd a2 = 3 → lv_has ls 9 [(1, .ref (gB E + a1)), (2, .ref (gB E + a2)), (3, .int x3), (4, .int x4), (5, .int x5), (6, .int x6), (7, .int x7)] → X1_tapersFor_35 f a1 a2 x3 x4 x5 x6 x7 σ = some r → W p l e (RM 5) s m args below meth c H locs 0 0 (QI E below args s r.1 r.2) (F0 m 35 ls []) := by
  intro f
  induction f with
  | zero =>
    intro a1 a2 x3 x4 x5 x6 x7 σ ls H locs X hk_a1 hk_a2 hl h
    rw [X1_tapersFor_35] at h
    cases h
  | succ f ih =>
    intro a1 a2 x3 x4 x5 x6 x7 σ ls H locs X hk_a1 hk_a2 hl h
    rw [X1_tapersFor_35] at h
    refine lv_iload C.1 C.2.1 dX1_tapersFor_35 (lv_at hl 6 rfl) ?_
    refine lv_aload_n C.1 C.2.1 dX1_tapersFor_37 rfl (lv_at hl 0 rfl) ?_
    refine gfX7 C G X (k := a1) hk_a1 0 (v := .int (σ a1 0)) rfl rfl (by decide) k_202 rfl dX1_tapersFor_38 ?_
    refine lv_icmp_ge (tgt := 87) C.1 C.2.1 dX1_tapersFor_41 (by decide) (fun c41 => ?_) (fun c41 => ?_)
    · replace h := ipos c41 h
      refine lv_iload C.1 C.2.1 dX1_tapersFor_87 (lv_at hl 5 rfl) ?_
      rw [← Option.some.inj h]
      exact rtI C X dX1_tapersFor_89
    · replace h := ineg c41 h
      refine lv_aload_n C.1 C.2.1 dX1_tapersFor_44 rfl (lv_at hl 0 rfl) ?_
      refine lv_iload_n C.1 C.2.1 dX1_tapersFor_45 rfl (lv_at hl 2 rfl) ?_
      refine lv_iload C.1 C.2.1 dX1_tapersFor_46 (lv_at hl 6 rfl) ?_
      obtain ⟨r48, e48, h⟩ := bnd h
      refine afI X (runV C G X q_X7_likesFor k_526 k_527 k_626 (rcX7 G X hk_a1) (c_X7_likesFor l E hk_a1 e48) rfl hl.1 rfl (Nat.le_of_ble_eq_true rfl) ⟨Nat.le_of_ble_eq_true rfl, Nat.le_of_ble_eq_true rfl⟩ ⟨Nat.le_of_ble_eq_true rfl, Nat.le_of_ble_eq_true rfl⟩ dX1_tapersFor_48) (fun H locs X => ?_)
      refine lv_istore (lv' := [(8, .int r48), (1, .ref (gB E + a1)), (2, .ref (gB E + a2)), (3, .int x3), (4, .int x4), (5, .int x5), (6, .int x6), (7, .int x7)]) C.1 C.2.1 dX1_tapersFor_51 hl (by decide) rfl (fun ls hl => ?_)
      refine lv_iload C.1 C.2.1 dX1_tapersFor_53 (lv_at hl 4 rfl) ?_
      refine lv_iload C.1 C.2.1 dX1_tapersFor_55 (lv_at hl 7 rfl) ?_
      obtain ⟨r57, e57, h⟩ := bnd h
      refine afI X (runN C G X q_X11_hasBit k_509 nw_15 (c_X11_hasBit l E e57) rfl hl.1 rfl (Nat.le_of_ble_eq_true rfl) ⟨Nat.le_of_ble_eq_true rfl, Nat.le_of_ble_eq_true rfl⟩ ⟨Nat.le_of_ble_eq_true rfl, Nat.le_of_ble_eq_true rfl⟩ dX1_tapersFor_57) (fun H locs X => ?_)
      refine lv_if_eq (tgt := 81) C.1 C.2.1 dX1_tapersFor_60 (by decide) (fun c60 => ?_) (fun c60 => ?_)
      · replace h := ipos c60 h
        refine lv_iinc (v := (x7 + 1)) (lv' := [(7, .int (x7 + 1)), (8, .int r48), (1, .ref (gB E + a1)), (2, .ref (gB E + a2)), (3, .int x3), (4, .int x4), (5, .int x5), (6, .int x6)]) C.1 C.2.1 dX1_tapersFor_81 hl (k := 7) rfl rfl (by decide) rfl (fun ls hl => ?_)
        refine lv_goto (tgt := 35) C.1 C.2.1 dX1_tapersFor_84 (by decide) ?_
        exact ih X hk_a1 hk_a2 (lv_sub hl [2, 3, 4, 5, 6, 7, 0] rfl) h
      · replace h := ineg c60 h
        refine lv_aload_n C.1 C.2.1 dX1_tapersFor_63 rfl (lv_at hl 2 rfl) ?_
        refine lv_aload_n C.1 C.2.1 dX1_tapersFor_64 rfl (lv_at hl 1 rfl) ?_
        refine lv_iload_n C.1 C.2.1 dX1_tapersFor_65 rfl (lv_at hl 3 rfl) ?_
        refine lv_iload C.1 C.2.1 dX1_tapersFor_66 (lv_at hl 7 rfl) ?_
        refine lv_iload C.1 C.2.1 dX1_tapersFor_68 (lv_at hl 0 rfl) ?_
        refine lv_iload C.1 C.2.1 dX1_tapersFor_70 (lv_at hl 5 rfl) ?_
        obtain ⟨r72, σ72, e72, h⟩ := bnd2 h
        refine afI (r0 := r72) (σ' := σ72) X (runV C G X q_X3_letsLight k_534 k_535 k_628 (rcX3 G X hk_a2) (c_X3_letsLight l E hk_a2 hk_a1 e72) rfl hl.1 rfl (Nat.le_of_ble_eq_true rfl) ⟨Nat.le_of_ble_eq_true rfl, Nat.le_of_ble_eq_true rfl⟩ ⟨Nat.le_of_ble_eq_true rfl, Nat.le_of_ble_eq_true rfl⟩ dX1_tapersFor_72) (fun H locs X => ?_)
        refine lv_if_eq (tgt := 81) C.1 C.2.1 dX1_tapersFor_75 (by decide) (fun c75 => ?_) (fun c75 => ?_)
        · replace h := ipos c75 h
          refine lv_iinc (v := (x7 + 1)) (lv' := [(7, .int (x7 + 1)), (8, .int r48), (1, .ref (gB E + a1)), (2, .ref (gB E + a2)), (3, .int x3), (4, .int x4), (5, .int x5), (6, .int x6)]) C.1 C.2.1 dX1_tapersFor_81 hl (k := 7) rfl rfl (by decide) rfl (fun ls hl => ?_)
          refine lv_goto (tgt := 35) C.1 C.2.1 dX1_tapersFor_84 (by decide) ?_
          exact ih X hk_a1 hk_a2 (lv_sub hl [2, 3, 4, 5, 6, 7, 0] rfl) h
        · replace h := ineg c75 h
          refine lv_iinc (v := (x6 + 1)) (lv' := [(6, .int (x6 + 1)), (8, .int r48), (1, .ref (gB E + a1)), (2, .ref (gB E + a2)), (3, .int x3), (4, .int x4), (5, .int x5), (7, .int x7)]) C.1 C.2.1 dX1_tapersFor_78 hl (k := 6) rfl rfl (by decide) rfl (fun ls hl => ?_)
          refine lv_iinc (v := (x7 + 1)) (lv' := [(7, .int (x7 + 1)), (6, .int (x6 + 1)), (8, .int r48), (1, .ref (gB E + a1)), (2, .ref (gB E + a2)), (3, .int x3), (4, .int x4), (5, .int x5)]) C.1 C.2.1 dX1_tapersFor_81 hl (k := 7) rfl rfl (by decide) rfl (fun ls hl => ?_)
          refine lv_goto (tgt := 35) C.1 C.2.1 dX1_tapersFor_84 (by decide) ?_
          exact ih X hk_a1 hk_a2 (lv_sub hl [3, 4, 5, 6, 7, 1, 0] rfl) h

set_option maxRecDepth 20000 in
theorem w_X1_tapersFor {r : (Int32 × Mem)} {σ : Mem} {a1 : Nat} {a2 : Nat} {x3 : Int32} {ls : Array Slot} {H : Heap} {locs : List Loc} (C : Cx p s m args meth c cX1_tapersFor (some .int) 9 RX1) (G : Gf E s) (X : Hx E σ s H locs) (hk_a1 : kd a1 = 2) (hk_a2 : kd a2 = 3) (hl : lv_has ls 9 [(0, .ref (gB E + 396)), (1, .ref (gB E + a1)), (2, .ref (gB E + a2)), (3, .int x3)]) (h : X1_tapersFor a1 a2 x3 σ = some r) : W p l e (RM 5) s m args below meth c H locs 0 0 (QI E below args s r.1 r.2) (F0 m 0 ls []) := by
  rw [X1_tapersFor] at h
  refine lv_aload_n C.1 C.2.1 dX1_tapersFor_0 rfl (lv_at hl 1 rfl) ?_
  refine lv_aload_n C.1 C.2.1 dX1_tapersFor_1 rfl (lv_at hl 1 rfl) ?_
  refine gfX7 C G X (k := a1) hk_a1 13 (v := .ref (gB E + (a1 + 9))) rfl rfl (by decide) k_249 rfl dX1_tapersFor_2 ?_
  refine lv_iload_n C.1 C.2.1 dX1_tapersFor_5 rfl (lv_at hl 3 rfl) ?_
  obtain ⟨r6, e6, h⟩ := bnd h
  refine afI X (runV C G X q_X6_get k_498 k_499 k_627 (rcX6 G X (kf_2_9 hk_a1)) (c_X6_get l E (kf_2_9 hk_a1) e6) rfl hl.1 rfl (Nat.le_of_ble_eq_true rfl) ⟨Nat.le_of_ble_eq_true rfl, Nat.le_of_ble_eq_true rfl⟩ ⟨Nat.le_of_ble_eq_true rfl, Nat.le_of_ble_eq_true rfl⟩ dX1_tapersFor_6) (fun H locs X => ?_)
  refine lv_iconst (v := -1) C.1 C.2.1 dX1_tapersFor_9 (by decide) ?_
  obtain ⟨r10, e10, h⟩ := bnd h
  refine afI X (runV C G X q_X7_reached k_656 k_657 k_1223 (rcX7 G X hk_a1) (c_X7_reached l E hk_a1 e10) rfl hl.1 rfl (Nat.le_of_ble_eq_true rfl) ⟨Nat.le_of_ble_eq_true rfl, Nat.le_of_ble_eq_true rfl⟩ ⟨Nat.le_of_ble_eq_true rfl, Nat.le_of_ble_eq_true rfl⟩ dX1_tapersFor_10) (fun H locs X => ?_)
  refine lv_istore (lv' := [(4, .int r10), (0, .ref (gB E + 396)), (1, .ref (gB E + a1)), (2, .ref (gB E + a2)), (3, .int x3)]) C.1 C.2.1 dX1_tapersFor_13 hl (by decide) rfl (fun ls hl => ?_)
  refine lv_aload_n C.1 C.2.1 dX1_tapersFor_15 rfl (lv_at hl 2 rfl) ?_
  refine gfX7 C G X (k := a1) hk_a1 14 (v := .ref (gB E + (a1 + 11))) rfl rfl (by decide) k_252 rfl dX1_tapersFor_16 ?_
  refine lv_iload_n C.1 C.2.1 dX1_tapersFor_19 rfl (lv_at hl 4 rfl) ?_
  obtain ⟨r20, e20, h⟩ := bnd h
  refine afI X (runV C G X q_X6_get k_498 k_499 k_627 (rcX6 G X (kf_2_11 hk_a1)) (c_X6_get l E (kf_2_11 hk_a1) e20) rfl hl.1 rfl (Nat.le_of_ble_eq_true rfl) ⟨Nat.le_of_ble_eq_true rfl, Nat.le_of_ble_eq_true rfl⟩ ⟨Nat.le_of_ble_eq_true rfl, Nat.le_of_ble_eq_true rfl⟩ dX1_tapersFor_20) (fun H locs X => ?_)
  refine lv_iconst (v := 1) C.1 C.2.1 dX1_tapersFor_23 (by decide) ?_
  refine mmax C hl.1 (cells := 0) k_1224 ⟨Nat.le_of_ble_eq_true rfl, Nat.le_of_ble_eq_true rfl, Nat.le_of_ble_eq_true rfl, Nat.le_of_ble_eq_true rfl⟩ dX1_tapersFor_24 ?_
  refine lv_istore (lv' := [(5, .int (if r20 < (1 : Int32) then (1 : Int32) else r20)), (4, .int r10), (0, .ref (gB E + 396)), (1, .ref (gB E + a1)), (2, .ref (gB E + a2)), (3, .int x3)]) C.1 C.2.1 dX1_tapersFor_27 hl (by decide) rfl (fun ls hl => ?_)
  refine lv_iconst (v := 0) C.1 C.2.1 dX1_tapersFor_29 (by decide) ?_
  refine lv_istore (lv' := [(6, .int (0 : Int32)), (5, .int (if r20 < (1 : Int32) then (1 : Int32) else r20)), (4, .int r10), (0, .ref (gB E + 396)), (1, .ref (gB E + a1)), (2, .ref (gB E + a2)), (3, .int x3)]) C.1 C.2.1 dX1_tapersFor_30 hl (by decide) rfl (fun ls hl => ?_)
  refine lv_iconst (v := 0) C.1 C.2.1 dX1_tapersFor_32 (by decide) ?_
  refine lv_istore (lv' := [(7, .int (0 : Int32)), (6, .int (0 : Int32)), (5, .int (if r20 < (1 : Int32) then (1 : Int32) else r20)), (4, .int r10), (0, .ref (gB E + 396)), (1, .ref (gB E + a1)), (2, .ref (gB E + a2)), (3, .int x3)]) C.1 C.2.1 dX1_tapersFor_33 hl (by decide) rfl (fun ls hl => ?_)
  exact w_X1_tapersFor_35 C G FU X hk_a1 hk_a2 (lv_sub hl [5, 6, 7, 3, 2, 1, 0] rfl) h

theorem c_X1_tapersFor (l : Launch) (E : GE) {σ : Mem} {a1 : Nat} {a2 : Nat} {x3 : Int32} (hk_a1 : kd a1 = 2) (hk_a2 : kd a2 = 3) {r : (Int32 × Mem)} (h : X1_tapersFor a1 a2 x3 σ = some r) : CtI l E yX1_tapersFor cX1_tapersFor 9 .int 5 [.ref (gB E + 396), .ref (gB E + a1), .ref (gB E + a2), .int x3] σ r.1 r.2 := by
  refine Met.ofW (cc := cX1_tapersFor) (maxL := 9) (ret := (some .int)) (by decide) rfl ?_
  intro p e s m args below meth c s₁ B hml hv
  obtain ⟨rfl, G, X⟩ := start hv
  have C := cxof B hml
  have hl := lv_entry [.ref (gB E + 396), .ref (gB E + a1), .ref (gB E + a2), .int x3] (n := 9) (Nat.le_of_ble_eq_true rfl)
  rw [lg_entry_eq]
  generalize (lg_sl [.ref (gB E + 396), .ref (gB E + a1), .ref (gB E + a2), .int x3] ++ List.replicate (9 - (lg_sl [.ref (gB E + 396), .ref (gB E + a1), .ref (gB E + a2), .int x3]).length) Slot.unset).toArray = ls at hl ⊢
  exact w_X1_tapersFor C G X hk_a1 hk_a2 hl h

set_option maxRecDepth 20000 in
theorem w_X7_farOf_8 {r : Int32} {σ : Mem} (C : Cx p s m args meth c cX7_farOf (some .int) 5 RX7) (G : Gf E s) : ∀ (f : Nat) {a0 : Nat} {x2 : Int32} {x3 : Int32} {x4 : Int32} {ls : Array Slot} {H : Heap} {locs : List Loc}, Hx E σ s H locs → kd a0 = 2 → lv_has ls 5 [(0, .ref (gB E + a0)), (2, .int x2), (3, .int x3), (4, .int x4)] → X7_farOf_8 σ f a0 x2 x3 x4 = some r → W p l e (RM 3) s m args below meth c H locs 0 0 (QI E below args s r σ) (F0 m 8 ls []) := by
  intro f
  induction f with
  | zero =>
    intro a0 x2 x3 x4 ls H locs X hk_a0 hl h
    rw [X7_farOf_8] at h
    cases h
  | succ f ih =>
    intro a0 x2 x3 x4 ls H locs X hk_a0 hl h
    rw [X7_farOf_8] at h
    refine lv_iload C.1 C.2.1 dX7_farOf_8 (lv_at hl 3 rfl) ?_
    refine lv_bipush (v := 9) C.1 C.2.1 dX7_farOf_10 (by decide) ?_
    refine lv_icmp_ge (tgt := 40) C.1 C.2.1 dX7_farOf_12 (by decide) (fun c12 => ?_) (fun c12 => ?_)
    · replace h := ipos c12 h
      refine lv_iconst (v := -1) C.1 C.2.1 dX7_farOf_40 (by decide) ?_
      rw [← Option.some.inj h]
      exact rtI C X dX7_farOf_41
    · replace h := ineg c12 h
      refine lv_iload_n C.1 C.2.1 dX7_farOf_15 rfl (lv_at hl 2 rfl) ?_
      refine lv_iload_n C.1 C.2.1 dX7_farOf_16 rfl (lv_at hl 1 rfl) ?_
      obtain ⟨r17, e17, h⟩ := bnd h
      refine afI X (runN C G X q_X11_hasBit k_509 nw_9 (c_X11_hasBit l E e17) rfl hl.1 rfl (Nat.le_of_ble_eq_true rfl) ⟨Nat.le_of_ble_eq_true rfl, Nat.le_of_ble_eq_true rfl⟩ ⟨Nat.le_of_ble_eq_true rfl, Nat.le_of_ble_eq_true rfl⟩ dX7_farOf_17) (fun H locs X => ?_)
      refine lv_if_eq (tgt := 26) C.1 C.2.1 dX7_farOf_20 (by decide) (fun c20 => ?_) (fun c20 => ?_)
      · replace h := ipos c20 h
        refine lv_iload_n C.1 C.2.1 dX7_farOf_26 rfl (lv_at hl 2 rfl) ?_
        refine lv_aload_n C.1 C.2.1 dX7_farOf_27 rfl (lv_at hl 0 rfl) ?_
        refine lv_iload_n C.1 C.2.1 dX7_farOf_28 rfl (lv_at hl 2 rfl) ?_
        obtain ⟨r29, e29, h⟩ := bnd h
        refine afI X (runV C G X q_X7_around k_512 k_513 k_511 (rcX7 G X hk_a0) (c_X7_around l E hk_a0 e29) rfl hl.1 rfl (Nat.le_of_ble_eq_true rfl) ⟨Nat.le_of_ble_eq_true rfl, Nat.le_of_ble_eq_true rfl⟩ ⟨Nat.le_of_ble_eq_true rfl, Nat.le_of_ble_eq_true rfl⟩ dX7_farOf_29) (fun H locs X => ?_)
        refine lv_ior C.1 C.2.1 dX7_farOf_32 ?_
        refine lv_istore_n (lv' := [(3, .int (x3 ||| r29)), (0, .ref (gB E + a0)), (2, .int x2), (4, .int x4)]) C.1 C.2.1 dX7_farOf_33 rfl hl (by decide) rfl (fun ls hl => ?_)
        refine lv_iinc (v := (x4 + 1)) (lv' := [(4, .int (x4 + 1)), (3, .int (x3 ||| r29)), (0, .ref (gB E + a0)), (2, .int x2)]) C.1 C.2.1 dX7_farOf_34 hl (k := 3) rfl rfl (by decide) rfl (fun ls hl => ?_)
        refine lv_goto (tgt := 8) C.1 C.2.1 dX7_farOf_37 (by decide) ?_
        exact ih X hk_a0 (lv_sub hl [2, 3, 1, 0] rfl) h
      · replace h := ineg c20 h
        refine lv_iload C.1 C.2.1 dX7_farOf_23 (lv_at hl 3 rfl) ?_
        rw [← Option.some.inj h]
        exact rtI C X dX7_farOf_25

set_option maxRecDepth 20000 in
theorem w_X7_farOf {r : Int32} {σ : Mem} {a0 : Nat} {x1 : Int32} {x2 : Int32} {ls : Array Slot} {H : Heap} {locs : List Loc} (C : Cx p s m args meth c cX7_farOf (some .int) 5 RX7) (G : Gf E s) (X : Hx E σ s H locs) (hk_a0 : kd a0 = 2) (hl : lv_has ls 5 [(0, .ref (gB E + a0)), (1, .int x1), (2, .int x2)]) (h : X7_farOf σ a0 x1 x2 = some r) : W p l e (RM 3) s m args below meth c H locs 0 0 (QI E below args s r σ) (F0 m 0 ls []) := by
  rw [X7_farOf] at h
  refine lv_iload_n C.1 C.2.1 dX7_farOf_0 rfl (lv_at hl 1 rfl) ?_
  obtain ⟨r1, e1, h⟩ := bnd h
  refine afI X (runN C G X q_X11_bit k_506 nw_8 (c_X11_bit l E e1) rfl hl.1 rfl (Nat.le_of_ble_eq_true rfl) ⟨Nat.le_of_ble_eq_true rfl, Nat.le_of_ble_eq_true rfl⟩ ⟨Nat.le_of_ble_eq_true rfl, Nat.le_of_ble_eq_true rfl⟩ dX7_farOf_1) (fun H locs X => ?_)
  refine lv_istore_n (lv' := [(3, .int r1), (0, .ref (gB E + a0)), (1, .int x1), (2, .int x2)]) C.1 C.2.1 dX7_farOf_4 rfl hl (by decide) rfl (fun ls hl => ?_)
  refine lv_iconst (v := 0) C.1 C.2.1 dX7_farOf_5 (by decide) ?_
  refine lv_istore (lv' := [(4, .int (0 : Int32)), (3, .int r1), (0, .ref (gB E + a0)), (1, .int x1), (2, .int x2)]) C.1 C.2.1 dX7_farOf_6 hl (by decide) rfl (fun ls hl => ?_)
  exact w_X7_farOf_8 C G FU X hk_a0 (lv_sub hl [2, 4, 1, 0] rfl) h

theorem c_X7_farOf (l : Launch) (E : GE) {σ : Mem} {a0 : Nat} {x1 : Int32} {x2 : Int32} (hk_a0 : kd a0 = 2) {r : Int32} (h : X7_farOf σ a0 x1 x2 = some r) : CtI l E yX7_farOf cX7_farOf 5 .int 3 [.ref (gB E + a0), .int x1, .int x2] σ r σ := by
  refine Met.ofW (cc := cX7_farOf) (maxL := 5) (ret := (some .int)) (by decide) rfl ?_
  intro p e s m args below meth c s₁ B hml hv
  obtain ⟨rfl, G, X⟩ := start hv
  have C := cxof B hml
  have hl := lv_entry [.ref (gB E + a0), .int x1, .int x2] (n := 5) (Nat.le_of_ble_eq_true rfl)
  rw [lg_entry_eq]
  generalize (lg_sl [.ref (gB E + a0), .int x1, .int x2] ++ List.replicate (5 - (lg_sl [.ref (gB E + a0), .int x1, .int x2]).length) Slot.unset).toArray = ls at hl ⊢
  exact w_X7_farOf C G X hk_a0 hl h

set_option maxRecDepth 20000 in
theorem w_X7_paneOf_2 {r : Int32} {σ : Mem} (C : Cx p s m args meth c cX7_paneOf (some .int) 3 RX7) (G : Gf E s) : ∀ (f : Nat) {a0 : Nat} {x1 : Int32} {x2 : Int32} {ls : Array Slot} {H : Heap} {locs : List Loc}, Hx E σ s H locs → kd a0 = 2 → lv_has ls 3 [(0, .ref (gB E + a0)), (1, .int x1), (2, .int x2)] → X7_paneOf_2 σ f a0 x1 x2 = some r → W p l e (RM 2) s m args below meth c H locs 0 0 (QI E below args s r σ) (F0 m 2 ls []) := by
  intro f
  induction f with
  | zero =>
    intro a0 x1 x2 ls H locs X hk_a0 hl h
    rw [X7_paneOf_2] at h
    cases h
  | succ f ih =>
    intro a0 x1 x2 ls H locs X hk_a0 hl h
    rw [X7_paneOf_2] at h
    refine lv_iload_n C.1 C.2.1 dX7_paneOf_2 rfl (lv_at hl 2 rfl) ?_
    refine lv_aload_n C.1 C.2.1 dX7_paneOf_3 rfl (lv_at hl 0 rfl) ?_
    refine gfX7 C G X (k := a0) hk_a0 0 (v := .int (σ a0 0)) rfl rfl (by decide) k_198 rfl dX7_paneOf_4 ?_
    refine lv_icmp_ge (tgt := 30) C.1 C.2.1 dX7_paneOf_7 (by decide) (fun c7 => ?_) (fun c7 => ?_)
    · replace h := ipos c7 h
      refine lv_iconst (v := -1) C.1 C.2.1 dX7_paneOf_30 (by decide) ?_
      rw [← Option.some.inj h]
      exact rtI C X dX7_paneOf_31
    · replace h := ineg c7 h
      refine lv_aload_n C.1 C.2.1 dX7_paneOf_10 rfl (lv_at hl 0 rfl) ?_
      refine gfX7 C G X (k := a0) hk_a0 10 (v := .ref (gB E + (a0 + 3))) rfl rfl (by decide) k_235 rfl dX7_paneOf_11 ?_
      refine lv_iload_n C.1 C.2.1 dX7_paneOf_14 rfl (lv_at hl 2 rfl) ?_
      obtain ⟨r15, e15, h⟩ := bnd h
      refine afI X (runV C G X q_X6_get k_498 k_499 k_515 (rcX6 G X (kf_2_3 hk_a0)) (c_X6_get l E (kf_2_3 hk_a0) e15) rfl hl.1 rfl (Nat.le_of_ble_eq_true rfl) ⟨Nat.le_of_ble_eq_true rfl, Nat.le_of_ble_eq_true rfl⟩ ⟨Nat.le_of_ble_eq_true rfl, Nat.le_of_ble_eq_true rfl⟩ dX7_paneOf_15) (fun H locs X => ?_)
      refine lv_iload_n C.1 C.2.1 dX7_paneOf_18 rfl (lv_at hl 1 rfl) ?_
      refine lv_icmp_ne (tgt := 24) C.1 C.2.1 dX7_paneOf_19 (by decide) (fun c19 => ?_) (fun c19 => ?_)
      · replace h := ineg c19 h
        refine lv_iinc (v := (x2 + 1)) (lv' := [(2, .int (x2 + 1)), (0, .ref (gB E + a0)), (1, .int x1)]) C.1 C.2.1 dX7_paneOf_24 hl (k := 2) rfl rfl (by decide) rfl (fun ls hl => ?_)
        refine lv_goto (tgt := 2) C.1 C.2.1 dX7_paneOf_27 (by decide) ?_
        exact ih X hk_a0 (lv_sub hl [1, 2, 0] rfl) h
      · replace h := ipos c19 h
        refine lv_iload_n C.1 C.2.1 dX7_paneOf_22 rfl (lv_at hl 2 rfl) ?_
        rw [← Option.some.inj h]
        exact rtI C X dX7_paneOf_23

set_option maxRecDepth 20000 in
theorem w_X7_paneOf {r : Int32} {σ : Mem} {a0 : Nat} {x1 : Int32} {ls : Array Slot} {H : Heap} {locs : List Loc} (C : Cx p s m args meth c cX7_paneOf (some .int) 3 RX7) (G : Gf E s) (X : Hx E σ s H locs) (hk_a0 : kd a0 = 2) (hl : lv_has ls 3 [(0, .ref (gB E + a0)), (1, .int x1)]) (h : X7_paneOf σ a0 x1 = some r) : W p l e (RM 2) s m args below meth c H locs 0 0 (QI E below args s r σ) (F0 m 0 ls []) := by
  rw [X7_paneOf] at h
  refine lv_iconst (v := 0) C.1 C.2.1 dX7_paneOf_0 (by decide) ?_
  refine lv_istore_n (lv' := [(2, .int (0 : Int32)), (0, .ref (gB E + a0)), (1, .int x1)]) C.1 C.2.1 dX7_paneOf_1 rfl hl (by decide) rfl (fun ls hl => ?_)
  exact w_X7_paneOf_2 C G FU X hk_a0 (lv_sub hl [1, 2, 0] rfl) h

theorem c_X7_paneOf (l : Launch) (E : GE) {σ : Mem} {a0 : Nat} {x1 : Int32} (hk_a0 : kd a0 = 2) {r : Int32} (h : X7_paneOf σ a0 x1 = some r) : CtI l E yX7_paneOf cX7_paneOf 3 .int 2 [.ref (gB E + a0), .int x1] σ r σ := by
  refine Met.ofW (cc := cX7_paneOf) (maxL := 3) (ret := (some .int)) (by decide) rfl ?_
  intro p e s m args below meth c s₁ B hml hv
  obtain ⟨rfl, G, X⟩ := start hv
  have C := cxof B hml
  have hl := lv_entry [.ref (gB E + a0), .int x1] (n := 3) (Nat.le_of_ble_eq_true rfl)
  rw [lg_entry_eq]
  generalize (lg_sl [.ref (gB E + a0), .int x1] ++ List.replicate (3 - (lg_sl [.ref (gB E + a0), .int x1]).length) Slot.unset).toArray = ls at hl ⊢
  exact w_X7_paneOf C G X hk_a0 hl h

set_option maxRecDepth 20000 in
theorem w_X1_isTrade {r : (Int32 × Mem)} {σ : Mem} {a1 : Nat} {a2 : Nat} {x3 : Int32} {x4 : Int32} {ls : Array Slot} {H : Heap} {locs : List Loc} (C : Cx p s m args meth c cX1_isTrade (some .boolean) 8 RX1) (G : Gf E s) (X : Hx E σ s H locs) (hk_a1 : kd a1 = 2) (hk_a2 : kd a2 = 3) (hl : lv_has ls 8 [(0, .ref (gB E + 396)), (1, .ref (gB E + a1)), (2, .ref (gB E + a2)), (3, .int x3), (4, .int x4)]) (h : X1_isTrade a1 a2 x3 x4 σ = some r) : W p l e (RM 5) s m args below meth c H locs 0 0 (QI E below args s r.1 r.2) (F0 m 0 ls []) := by
  rw [X1_isTrade] at h
  refine lv_aload_n C.1 C.2.1 dX1_isTrade_0 rfl (lv_at hl 1 rfl) ?_
  refine gfX7 C G X (k := a1) hk_a1 10 (v := .ref (gB E + (a1 + 3))) rfl rfl (by decide) k_236 rfl dX1_isTrade_1 ?_
  refine lv_iload C.1 C.2.1 dX1_isTrade_4 (lv_at hl 4 rfl) ?_
  obtain ⟨r6, e6, h⟩ := bnd h
  refine afI X (runV C G X q_X6_get k_498 k_499 k_627 (rcX6 G X (kf_2_3 hk_a1)) (c_X6_get l E (kf_2_3 hk_a1) e6) rfl hl.1 rfl (Nat.le_of_ble_eq_true rfl) ⟨Nat.le_of_ble_eq_true rfl, Nat.le_of_ble_eq_true rfl⟩ ⟨Nat.le_of_ble_eq_true rfl, Nat.le_of_ble_eq_true rfl⟩ dX1_isTrade_6) (fun H locs X => ?_)
  refine lv_istore (lv' := [(5, .int r6), (0, .ref (gB E + 396)), (1, .ref (gB E + a1)), (2, .ref (gB E + a2)), (3, .int x3), (4, .int x4)]) C.1 C.2.1 dX1_isTrade_9 hl (by decide) rfl (fun ls hl => ?_)
  refine lv_aload_n C.1 C.2.1 dX1_isTrade_11 rfl (lv_at hl 2 rfl) ?_
  refine lv_iload_n C.1 C.2.1 dX1_isTrade_12 rfl (lv_at hl 4 rfl) ?_
  obtain ⟨r13, e13, h⟩ := bnd h
  refine afI X (runV C G X q_X7_paneOf k_1238 k_1239 k_1237 (rcX7 G X hk_a1) (c_X7_paneOf l E hk_a1 e13) rfl hl.1 rfl (Nat.le_of_ble_eq_true rfl) ⟨Nat.le_of_ble_eq_true rfl, Nat.le_of_ble_eq_true rfl⟩ ⟨Nat.le_of_ble_eq_true rfl, Nat.le_of_ble_eq_true rfl⟩ dX1_isTrade_13) (fun H locs X => ?_)
  refine lv_istore (lv' := [(6, .int r13), (5, .int r6), (0, .ref (gB E + 396)), (1, .ref (gB E + a1)), (2, .ref (gB E + a2)), (3, .int x3), (4, .int x4)]) C.1 C.2.1 dX1_isTrade_16 hl (by decide) rfl (fun ls hl => ?_)
  refine lv_iload C.1 C.2.1 dX1_isTrade_18 (lv_at hl 1 rfl) ?_
  refine lv_iconst (v := -1) C.1 C.2.1 dX1_isTrade_20 (by decide) ?_
  refine lv_icmp_eq (tgt := 36) C.1 C.2.1 dX1_isTrade_21 (by decide) (fun c21 => ?_) (fun c21 => ?_)
  · replace h := ipos c21 h
    refine lv_iconst (v := 0) C.1 C.2.1 dX1_isTrade_36 (by decide) ?_
    obtain ⟨u37, z37, h⟩ := bnd h
    rw [← Option.some.inj h]
    exact rtZ C X (gb_s z37) dX1_isTrade_37
  · replace h := ineg c21 h
    refine lv_iload C.1 C.2.1 dX1_isTrade_24 (lv_at hl 1 rfl) ?_
    refine lv_iload_n C.1 C.2.1 dX1_isTrade_26 rfl (lv_at hl 5 rfl) ?_
    refine lv_icmp_eq (tgt := 36) C.1 C.2.1 dX1_isTrade_27 (by decide) (fun c27 => ?_) (fun c27 => ?_)
    · replace h := ipos c27 h
      refine lv_iconst (v := 0) C.1 C.2.1 dX1_isTrade_36 (by decide) ?_
      obtain ⟨u37, z37, h⟩ := bnd h
      rw [← Option.some.inj h]
      exact rtZ C X (gb_s z37) dX1_isTrade_37
    · replace h := ineg c27 h
      refine lv_iload C.1 C.2.1 dX1_isTrade_30 (lv_at hl 0 rfl) ?_
      refine lv_iconst (v := -1) C.1 C.2.1 dX1_isTrade_32 (by decide) ?_
      refine lv_icmp_ne (tgt := 38) C.1 C.2.1 dX1_isTrade_33 (by decide) (fun c33 => ?_) (fun c33 => ?_)
      · replace h := ineg c33 h
        refine lv_aload_n C.1 C.2.1 dX1_isTrade_38 rfl (lv_at hl 3 rfl) ?_
        refine lv_iload C.1 C.2.1 dX1_isTrade_39 (lv_at hl 1 rfl) ?_
        refine lv_iload_n C.1 C.2.1 dX1_isTrade_41 rfl (lv_at hl 5 rfl) ?_
        obtain ⟨r42, e42, h⟩ := bnd h
        refine afI X (runV C G X q_X7_likesOf k_530 k_531 k_693 (rcX7 G X hk_a1) (c_X7_likesOf l E hk_a1 e42) rfl hl.1 rfl (Nat.le_of_ble_eq_true rfl) ⟨Nat.le_of_ble_eq_true rfl, Nat.le_of_ble_eq_true rfl⟩ ⟨Nat.le_of_ble_eq_true rfl, Nat.le_of_ble_eq_true rfl⟩ dX1_isTrade_42) (fun H locs X => ?_)
        refine lv_iconst (v := 1) C.1 C.2.1 dX1_isTrade_45 (by decide) ?_
        refine lv_iadd C.1 C.2.1 dX1_isTrade_46 ?_
        refine lv_bipush (v := 9) C.1 C.2.1 dX1_isTrade_47 (by decide) ?_
        refine mmin C hl.1 (cells := 0) k_1241 ⟨Nat.le_of_ble_eq_true rfl, Nat.le_of_ble_eq_true rfl, Nat.le_of_ble_eq_true rfl, Nat.le_of_ble_eq_true rfl⟩ dX1_isTrade_49 ?_
        obtain ⟨v52, e52, h⟩ := bnd h
        rw [Option.some.inj e52]
        refine lv_istore (lv' := [(7, .int v52), (6, .int r13), (5, .int r6), (0, .ref (gB E + 396)), (1, .ref (gB E + a1)), (2, .ref (gB E + a2)), (3, .int x3), (4, .int x4)]) C.1 C.2.1 dX1_isTrade_52 hl (by decide) rfl (fun ls hl => ?_)
        refine lv_aload_n C.1 C.2.1 dX1_isTrade_54 rfl (lv_at hl 5 rfl) ?_
        refine lv_aload_n C.1 C.2.1 dX1_isTrade_55 rfl (lv_at hl 4 rfl) ?_
        refine lv_iload_n C.1 C.2.1 dX1_isTrade_56 rfl (lv_at hl 6 rfl) ?_
        refine lv_iload C.1 C.2.1 dX1_isTrade_57 (lv_at hl 7 rfl) ?_
        refine lv_aload_n C.1 C.2.1 dX1_isTrade_59 rfl (lv_at hl 4 rfl) ?_
        refine lv_iload_n C.1 C.2.1 dX1_isTrade_60 rfl (lv_at hl 6 rfl) ?_
        refine lv_iload C.1 C.2.1 dX1_isTrade_61 (lv_at hl 2 rfl) ?_
        obtain ⟨r63, e63, h⟩ := bnd h
        refine afI X (runV C G X q_X7_likesOf k_530 k_531 k_693 (rcX7 G X hk_a1) (c_X7_likesOf l E hk_a1 e63) rfl hl.1 rfl (Nat.le_of_ble_eq_true rfl) ⟨Nat.le_of_ble_eq_true rfl, Nat.le_of_ble_eq_true rfl⟩ ⟨Nat.le_of_ble_eq_true rfl, Nat.le_of_ble_eq_true rfl⟩ dX1_isTrade_63) (fun H locs X => ?_)
        refine lv_aload_n C.1 C.2.1 dX1_isTrade_66 rfl (lv_at hl 4 rfl) ?_
        refine gfX7 C G X (k := a1) hk_a1 14 (v := .ref (gB E + (a1 + 11))) rfl rfl (by decide) k_252 rfl dX1_isTrade_67 ?_
        refine lv_iload_n C.1 C.2.1 dX1_isTrade_70 rfl (lv_at hl 6 rfl) ?_
        obtain ⟨r71, e71, h⟩ := bnd h
        refine afI X (runV C G X q_X6_get k_498 k_499 k_627 (rcX6 G X (kf_2_11 hk_a1)) (c_X6_get l E (kf_2_11 hk_a1) e71) rfl hl.1 rfl (Nat.le_of_ble_eq_true rfl) ⟨Nat.le_of_ble_eq_true rfl, Nat.le_of_ble_eq_true rfl⟩ ⟨Nat.le_of_ble_eq_true rfl, Nat.le_of_ble_eq_true rfl⟩ dX1_isTrade_71) (fun H locs X => ?_)
        obtain ⟨r74, σ74, e74, h⟩ := bnd2 h
        refine afI (r0 := r74) (σ' := σ74) X (runV C G X q_X3_letsLight k_534 k_535 k_628 (rcX3 G X hk_a2) (c_X3_letsLight l E hk_a2 hk_a1 e74) rfl hl.1 rfl (Nat.le_of_ble_eq_true rfl) ⟨Nat.le_of_ble_eq_true rfl, Nat.le_of_ble_eq_true rfl⟩ ⟨Nat.le_of_ble_eq_true rfl, Nat.le_of_ble_eq_true rfl⟩ dX1_isTrade_74) (fun H locs X => ?_)
        refine lv_if_eq (tgt := 107) C.1 C.2.1 dX1_isTrade_77 (by decide) (fun c77 => ?_) (fun c77 => ?_)
        · replace h := ipos c77 h
          refine lv_iconst (v := 0) C.1 C.2.1 dX1_isTrade_107 (by decide) ?_
          obtain ⟨u108, z108, h⟩ := bnd h
          rw [← Option.some.inj h]
          exact rtZ C X (gb_s z108) dX1_isTrade_108
        · replace h := ineg c77 h
          refine lv_aload_n C.1 C.2.1 dX1_isTrade_80 rfl (lv_at hl 5 rfl) ?_
          refine lv_aload_n C.1 C.2.1 dX1_isTrade_81 rfl (lv_at hl 4 rfl) ?_
          refine lv_iload C.1 C.2.1 dX1_isTrade_82 (lv_at hl 2 rfl) ?_
          refine lv_iload C.1 C.2.1 dX1_isTrade_84 (lv_at hl 1 rfl) ?_
          refine lv_iload C.1 C.2.1 dX1_isTrade_86 (lv_at hl 0 rfl) ?_
          refine lv_aload_n C.1 C.2.1 dX1_isTrade_88 rfl (lv_at hl 4 rfl) ?_
          refine gfX7 C G X (k := a1) hk_a1 14 (v := .ref (gB E + (a1 + 11))) rfl rfl (by decide) k_252 rfl dX1_isTrade_89 ?_
          refine lv_iload C.1 C.2.1 dX1_isTrade_92 (lv_at hl 2 rfl) ?_
          obtain ⟨r94, e94, h⟩ := bnd h
          refine afI X (runV C G X q_X6_get k_498 k_499 k_627 (rcX6 G X (kf_2_11 hk_a1)) (c_X6_get l E (kf_2_11 hk_a1) e94) rfl hl.1 rfl (Nat.le_of_ble_eq_true rfl) ⟨Nat.le_of_ble_eq_true rfl, Nat.le_of_ble_eq_true rfl⟩ ⟨Nat.le_of_ble_eq_true rfl, Nat.le_of_ble_eq_true rfl⟩ dX1_isTrade_94) (fun H locs X => ?_)
          obtain ⟨r97, σ97, e97, h⟩ := bnd2 h
          refine afI (r0 := r97) (σ' := σ97) X (runV C G X q_X3_letsLight k_534 k_535 k_628 (rcX3 G X hk_a2) (c_X3_letsLight l E hk_a2 hk_a1 e97) rfl hl.1 rfl (Nat.le_of_ble_eq_true rfl) ⟨Nat.le_of_ble_eq_true rfl, Nat.le_of_ble_eq_true rfl⟩ ⟨Nat.le_of_ble_eq_true rfl, Nat.le_of_ble_eq_true rfl⟩ dX1_isTrade_97) (fun H locs X => ?_)
          refine lv_if_eq (tgt := 107) C.1 C.2.1 dX1_isTrade_100 (by decide) (fun c100 => ?_) (fun c100 => ?_)
          · replace h := ipos c100 h
            refine lv_iconst (v := 0) C.1 C.2.1 dX1_isTrade_107 (by decide) ?_
            obtain ⟨u108, z108, h⟩ := bnd h
            rw [← Option.some.inj h]
            exact rtZ C X (gb_s z108) dX1_isTrade_108
          · replace h := ineg c100 h
            refine lv_iconst (v := 1) C.1 C.2.1 dX1_isTrade_103 (by decide) ?_
            refine lv_goto (tgt := 108) C.1 C.2.1 dX1_isTrade_104 (by decide) ?_
            obtain ⟨u108, z108, h⟩ := bnd h
            rw [← Option.some.inj h]
            exact rtZ C X (gb_s z108) dX1_isTrade_108
      · replace h := ipos c33 h
        refine lv_iconst (v := 0) C.1 C.2.1 dX1_isTrade_36 (by decide) ?_
        obtain ⟨u37, z37, h⟩ := bnd h
        rw [← Option.some.inj h]
        exact rtZ C X (gb_s z37) dX1_isTrade_37

theorem c_X1_isTrade (l : Launch) (E : GE) {σ : Mem} {a1 : Nat} {a2 : Nat} {x3 : Int32} {x4 : Int32} (hk_a1 : kd a1 = 2) (hk_a2 : kd a2 = 3) {r : (Int32 × Mem)} (h : X1_isTrade a1 a2 x3 x4 σ = some r) : CtI l E yX1_isTrade cX1_isTrade 8 .boolean 5 [.ref (gB E + 396), .ref (gB E + a1), .ref (gB E + a2), .int x3, .int x4] σ r.1 r.2 := by
  refine Met.ofW (cc := cX1_isTrade) (maxL := 8) (ret := (some .boolean)) (by decide) rfl ?_
  intro p e s m args below meth c s₁ B hml hv
  obtain ⟨rfl, G, X⟩ := start hv
  have C := cxof B hml
  have hl := lv_entry [.ref (gB E + 396), .ref (gB E + a1), .ref (gB E + a2), .int x3, .int x4] (n := 8) (Nat.le_of_ble_eq_true rfl)
  rw [lg_entry_eq]
  generalize (lg_sl [.ref (gB E + 396), .ref (gB E + a1), .ref (gB E + a2), .int x3, .int x4] ++ List.replicate (8 - (lg_sl [.ref (gB E + 396), .ref (gB E + a1), .ref (gB E + a2), .int x3, .int x4]).length) Slot.unset).toArray = ls at hl ⊢
  exact w_X1_isTrade C G X hk_a1 hk_a2 hl h

set_option maxRecDepth 20000 in
theorem w_X1_turnOf_11 {r : (Int32 × Mem)} (C : Cx p s m args meth c cX1_turnOf (some .int) 8 RX1) (G : Gf E s) : ∀ (f : Nat) {a1 : Nat} {a2 : Nat} {x3 : Int32} {x4 : Int32} {x5 : Int32} {x6 : Int32} {σ : Mem} {ls : Array Slot} {H : Heap} {locs : List Loc}, Hx E σ s H locs → kd a1 = 2 → kd a2 = 3 → lv_has ls 8 [(0, .ref (gB E + 396)), (1, .ref (gB E + a1)), (2, .ref (gB E + a2)), (3, .int x3), (4, .int x4), (5, .int x5), (6, .int x6)] → X1_turnOf_11 f a1 a2 x3 x4 x5 x6 σ = some r → W p l e (RM 6) s m args below meth c H locs 0 0 (QI E below args s r.1 r.2) (F0 m 11 ls []) := by
  intro f
  induction f with
  | zero =>
    intro a1 a2 x3 x4 x5 x6 σ ls H locs X hk_a1 hk_a2 hl h
    rw [X1_turnOf_11] at h
    cases h
  | succ f ih =>
    intro a1 a2 x3 x4 x5 x6 σ ls H locs X hk_a1 hk_a2 hl h
    rw [X1_turnOf_11] at h
    refine lv_iload C.1 C.2.1 dX1_turnOf_11 (lv_at hl 6 rfl) ?_
    refine lv_aload_n C.1 C.2.1 dX1_turnOf_13 rfl (lv_at hl 1 rfl) ?_
    refine gfX7 C G X (k := a1) hk_a1 0 (v := .int (σ a1 0)) rfl rfl (by decide) k_202 rfl dX1_turnOf_14 ?_
    refine lv_icmp_ge (tgt := 75) C.1 C.2.1 dX1_turnOf_17 (by decide) (fun c17 => ?_) (fun c17 => ?_)
    · replace h := ipos c17 h
      refine lv_iload C.1 C.2.1 dX1_turnOf_75 (lv_at hl 4 rfl) ?_
      rw [← Option.some.inj h]
      exact rtI C X dX1_turnOf_77
    · replace h := ineg c17 h
      refine lv_aload_n C.1 C.2.1 dX1_turnOf_20 rfl (lv_at hl 1 rfl) ?_
      refine lv_aload_n C.1 C.2.1 dX1_turnOf_21 rfl (lv_at hl 1 rfl) ?_
      refine gfX7 C G X (k := a1) hk_a1 13 (v := .ref (gB E + (a1 + 9))) rfl rfl (by decide) k_249 rfl dX1_turnOf_22 ?_
      refine lv_iload_n C.1 C.2.1 dX1_turnOf_25 rfl (lv_at hl 3 rfl) ?_
      obtain ⟨r26, e26, h⟩ := bnd h
      refine afI X (runV C G X q_X6_get k_498 k_499 k_627 (rcX6 G X (kf_2_9 hk_a1)) (c_X6_get l E (kf_2_9 hk_a1) e26) rfl hl.1 rfl (Nat.le_of_ble_eq_true rfl) ⟨Nat.le_of_ble_eq_true rfl, Nat.le_of_ble_eq_true rfl⟩ ⟨Nat.le_of_ble_eq_true rfl, Nat.le_of_ble_eq_true rfl⟩ dX1_turnOf_26) (fun H locs X => ?_)
      refine lv_iload C.1 C.2.1 dX1_turnOf_29 (lv_at hl 6 rfl) ?_
      obtain ⟨r31, e31, h⟩ := bnd h
      refine afI X (runV C G X q_X7_farOf k_1230 k_1231 k_1229 (rcX7 G X hk_a1) (c_X7_farOf l E hk_a1 e31) rfl hl.1 rfl (Nat.le_of_ble_eq_true rfl) ⟨Nat.le_of_ble_eq_true rfl, Nat.le_of_ble_eq_true rfl⟩ ⟨Nat.le_of_ble_eq_true rfl, Nat.le_of_ble_eq_true rfl⟩ dX1_turnOf_31) (fun H locs X => ?_)
      refine lv_istore (lv' := [(7, .int r31), (0, .ref (gB E + 396)), (1, .ref (gB E + a1)), (2, .ref (gB E + a2)), (3, .int x3), (4, .int x4), (5, .int x5), (6, .int x6)]) C.1 C.2.1 dX1_turnOf_34 hl (by decide) rfl (fun ls hl => ?_)
      refine lv_iload C.1 C.2.1 dX1_turnOf_36 (lv_at hl 0 rfl) ?_
      refine lv_iconst (v := -1) C.1 C.2.1 dX1_turnOf_38 (by decide) ?_
      refine lv_icmp_eq (tgt := 69) C.1 C.2.1 dX1_turnOf_39 (by decide) (fun c39 => ?_) (fun c39 => ?_)
      · replace h := ipos c39 h
        refine lv_iinc (v := (x6 + 1)) (lv' := [(6, .int (x6 + 1)), (7, .int r31), (0, .ref (gB E + 396)), (1, .ref (gB E + a1)), (2, .ref (gB E + a2)), (3, .int x3), (4, .int x4), (5, .int x5)]) C.1 C.2.1 dX1_turnOf_69 hl (k := 7) rfl rfl (by decide) rfl (fun ls hl => ?_)
        refine lv_goto (tgt := 11) C.1 C.2.1 dX1_turnOf_72 (by decide) ?_
        exact ih X hk_a1 hk_a2 (lv_sub hl [2, 3, 4, 5, 6, 7, 0] rfl) h
      · replace h := ineg c39 h
        refine lv_iload C.1 C.2.1 dX1_turnOf_42 (lv_at hl 0 rfl) ?_
        refine lv_iload C.1 C.2.1 dX1_turnOf_44 (lv_at hl 6 rfl) ?_
        refine lv_icmp_ge (tgt := 69) C.1 C.2.1 dX1_turnOf_46 (by decide) (fun c46 => ?_) (fun c46 => ?_)
        · replace h := ipos c46 h
          refine lv_iinc (v := (x6 + 1)) (lv' := [(6, .int (x6 + 1)), (7, .int r31), (0, .ref (gB E + 396)), (1, .ref (gB E + a1)), (2, .ref (gB E + a2)), (3, .int x3), (4, .int x4), (5, .int x5)]) C.1 C.2.1 dX1_turnOf_69 hl (k := 7) rfl rfl (by decide) rfl (fun ls hl => ?_)
          refine lv_goto (tgt := 11) C.1 C.2.1 dX1_turnOf_72 (by decide) ?_
          exact ih X hk_a1 hk_a2 (lv_sub hl [2, 3, 4, 5, 6, 7, 0] rfl) h
        · replace h := ineg c46 h
          refine lv_aload_n C.1 C.2.1 dX1_turnOf_49 rfl (lv_at hl 1 rfl) ?_
          refine lv_aload_n C.1 C.2.1 dX1_turnOf_50 rfl (lv_at hl 2 rfl) ?_
          refine lv_aload_n C.1 C.2.1 dX1_turnOf_51 rfl (lv_at hl 3 rfl) ?_
          refine lv_iload_n C.1 C.2.1 dX1_turnOf_52 rfl (lv_at hl 4 rfl) ?_
          refine lv_iload C.1 C.2.1 dX1_turnOf_53 (lv_at hl 7 rfl) ?_
          obtain ⟨r55, σ55, e55, h⟩ := bnd2 h
          refine afI (r0 := r55) (σ' := σ55) X (runV C G X q_X1_isTrade k_1235 kp_13 k_1233 (rcX1 G X kd_396) (c_X1_isTrade l E hk_a1 hk_a2 e55) rfl hl.1 rfl (Nat.le_of_ble_eq_true rfl) ⟨Nat.le_of_ble_eq_true rfl, Nat.le_of_ble_eq_true rfl⟩ ⟨Nat.le_of_ble_eq_true rfl, Nat.le_of_ble_eq_true rfl⟩ dX1_turnOf_55) (fun H locs X => ?_)
          refine lv_if_eq (tgt := 69) C.1 C.2.1 dX1_turnOf_58 (by decide) (fun c58 => ?_) (fun c58 => ?_)
          · replace h := ipos c58 h
            refine lv_iinc (v := (x6 + 1)) (lv' := [(6, .int (x6 + 1)), (7, .int r31), (0, .ref (gB E + 396)), (1, .ref (gB E + a1)), (2, .ref (gB E + a2)), (3, .int x3), (4, .int x4), (5, .int x5)]) C.1 C.2.1 dX1_turnOf_69 hl (k := 7) rfl rfl (by decide) rfl (fun ls hl => ?_)
            refine lv_goto (tgt := 11) C.1 C.2.1 dX1_turnOf_72 (by decide) ?_
            exact ih X hk_a1 hk_a2 (lv_sub hl [2, 3, 4, 5, 6, 7, 0] rfl) h
          · replace h := ineg c58 h
            refine lv_iload C.1 C.2.1 dX1_turnOf_61 (lv_at hl 0 rfl) ?_
            refine lv_istore (lv' := [(5, .int r31), (7, .int r31), (0, .ref (gB E + 396)), (1, .ref (gB E + a1)), (2, .ref (gB E + a2)), (3, .int x3), (4, .int x4), (6, .int x6)]) C.1 C.2.1 dX1_turnOf_63 hl (by decide) rfl (fun ls hl => ?_)
            refine lv_iload C.1 C.2.1 dX1_turnOf_65 (lv_at hl 7 rfl) ?_
            refine lv_istore (lv' := [(4, .int x6), (5, .int r31), (7, .int r31), (0, .ref (gB E + 396)), (1, .ref (gB E + a1)), (2, .ref (gB E + a2)), (3, .int x3), (6, .int x6)]) C.1 C.2.1 dX1_turnOf_67 hl (by decide) rfl (fun ls hl => ?_)
            refine lv_iinc (v := (x6 + 1)) (lv' := [(6, .int (x6 + 1)), (4, .int x6), (5, .int r31), (7, .int r31), (0, .ref (gB E + 396)), (1, .ref (gB E + a1)), (2, .ref (gB E + a2)), (3, .int x3)]) C.1 C.2.1 dX1_turnOf_69 hl (k := 7) rfl rfl (by decide) rfl (fun ls hl => ?_)
            refine lv_goto (tgt := 11) C.1 C.2.1 dX1_turnOf_72 (by decide) ?_
            exact ih X hk_a1 hk_a2 (lv_sub hl [4, 5, 6, 7, 1, 2, 0] rfl) h

set_option maxRecDepth 20000 in
theorem w_X1_turnOf {r : (Int32 × Mem)} {σ : Mem} {a1 : Nat} {a2 : Nat} {x3 : Int32} {ls : Array Slot} {H : Heap} {locs : List Loc} (C : Cx p s m args meth c cX1_turnOf (some .int) 8 RX1) (G : Gf E s) (X : Hx E σ s H locs) (hk_a1 : kd a1 = 2) (hk_a2 : kd a2 = 3) (hl : lv_has ls 8 [(0, .ref (gB E + 396)), (1, .ref (gB E + a1)), (2, .ref (gB E + a2)), (3, .int x3)]) (h : X1_turnOf a1 a2 x3 σ = some r) : W p l e (RM 6) s m args below meth c H locs 0 0 (QI E below args s r.1 r.2) (F0 m 0 ls []) := by
  rw [X1_turnOf] at h
  refine lv_iconst (v := -1) C.1 C.2.1 dX1_turnOf_0 (by decide) ?_
  refine lv_istore (lv' := [(4, .int (-1 : Int32)), (0, .ref (gB E + 396)), (1, .ref (gB E + a1)), (2, .ref (gB E + a2)), (3, .int x3)]) C.1 C.2.1 dX1_turnOf_1 hl (by decide) rfl (fun ls hl => ?_)
  refine lv_sipush (v := 1000) C.1 C.2.1 dX1_turnOf_3 (by decide) ?_
  refine lv_istore (lv' := [(5, .int (1000 : Int32)), (4, .int (-1 : Int32)), (0, .ref (gB E + 396)), (1, .ref (gB E + a1)), (2, .ref (gB E + a2)), (3, .int x3)]) C.1 C.2.1 dX1_turnOf_6 hl (by decide) rfl (fun ls hl => ?_)
  refine lv_iconst (v := 0) C.1 C.2.1 dX1_turnOf_8 (by decide) ?_
  refine lv_istore (lv' := [(6, .int (0 : Int32)), (5, .int (1000 : Int32)), (4, .int (-1 : Int32)), (0, .ref (gB E + 396)), (1, .ref (gB E + a1)), (2, .ref (gB E + a2)), (3, .int x3)]) C.1 C.2.1 dX1_turnOf_9 hl (by decide) rfl (fun ls hl => ?_)
  exact w_X1_turnOf_11 C G FU X hk_a1 hk_a2 (lv_sub hl [3, 4, 5, 6, 2, 1, 0] rfl) h

theorem c_X1_turnOf (l : Launch) (E : GE) {σ : Mem} {a1 : Nat} {a2 : Nat} {x3 : Int32} (hk_a1 : kd a1 = 2) (hk_a2 : kd a2 = 3) {r : (Int32 × Mem)} (h : X1_turnOf a1 a2 x3 σ = some r) : CtI l E yX1_turnOf cX1_turnOf 8 .int 6 [.ref (gB E + 396), .ref (gB E + a1), .ref (gB E + a2), .int x3] σ r.1 r.2 := by
  refine Met.ofW (cc := cX1_turnOf) (maxL := 8) (ret := (some .int)) (by decide) rfl ?_
  intro p e s m args below meth c s₁ B hml hv
  obtain ⟨rfl, G, X⟩ := start hv
  have C := cxof B hml
  have hl := lv_entry [.ref (gB E + 396), .ref (gB E + a1), .ref (gB E + a2), .int x3] (n := 8) (Nat.le_of_ble_eq_true rfl)
  rw [lg_entry_eq]
  generalize (lg_sl [.ref (gB E + 396), .ref (gB E + a1), .ref (gB E + a2), .int x3] ++ List.replicate (8 - (lg_sl [.ref (gB E + 396), .ref (gB E + a1), .ref (gB E + a2), .int x3]).length) Slot.unset).toArray = ls at hl ⊢
  exact w_X1_turnOf C G X hk_a1 hk_a2 hl h

set_option maxRecDepth 20000 in
theorem w_X7_litByAll_4 {r : Int32} {σ : Mem} (C : Cx p s m args meth c cX7_litByAll (some .int) 3 RX7) (G : Gf E s) : ∀ (f : Nat) {a0 : Nat} {x1 : Int32} {x2 : Int32} {ls : Array Slot} {H : Heap} {locs : List Loc}, Hx E σ s H locs → kd a0 = 2 → lv_has ls 3 [(0, .ref (gB E + a0)), (1, .int x1), (2, .int x2)] → X7_litByAll_4 σ f a0 x1 x2 = some r → W p l e (RM 2) s m args below meth c H locs 0 0 (QI E below args s r σ) (F0 m 4 ls []) := by
  intro f
  induction f with
  | zero =>
    intro a0 x1 x2 ls H locs X hk_a0 hl h
    rw [X7_litByAll_4] at h
    cases h
  | succ f ih =>
    intro a0 x1 x2 ls H locs X hk_a0 hl h
    rw [X7_litByAll_4] at h
    refine lv_iload_n C.1 C.2.1 dX7_litByAll_4 rfl (lv_at hl 2 rfl) ?_
    refine lv_aload_n C.1 C.2.1 dX7_litByAll_5 rfl (lv_at hl 0 rfl) ?_
    refine gfX7 C G X (k := a0) hk_a0 1 (v := .int (σ a0 1)) rfl rfl (by decide) k_205 rfl dX7_litByAll_6 ?_
    refine lv_icmp_ge (tgt := 29) C.1 C.2.1 dX7_litByAll_9 (by decide) (fun c9 => ?_) (fun c9 => ?_)
    · replace h := ipos c9 h
      refine lv_iload_n C.1 C.2.1 dX7_litByAll_29 rfl (lv_at hl 1 rfl) ?_
      rw [← Option.some.inj h]
      exact rtI C X dX7_litByAll_30
    · replace h := ineg c9 h
      refine lv_iload_n C.1 C.2.1 dX7_litByAll_12 rfl (lv_at hl 1 rfl) ?_
      refine lv_aload_n C.1 C.2.1 dX7_litByAll_13 rfl (lv_at hl 0 rfl) ?_
      refine gfX7 C G X (k := a0) hk_a0 16 (v := .ref (gB E + (a0 + 15))) rfl rfl (by decide) k_258 rfl dX7_litByAll_14 ?_
      refine lv_iload_n C.1 C.2.1 dX7_litByAll_17 rfl (lv_at hl 2 rfl) ?_
      obtain ⟨r18, e18, h⟩ := bnd h
      refine afI X (runV C G X q_X6_get k_498 k_499 k_515 (rcX6 G X (kf_2_15 hk_a0)) (c_X6_get l E (kf_2_15 hk_a0) e18) rfl hl.1 rfl (Nat.le_of_ble_eq_true rfl) ⟨Nat.le_of_ble_eq_true rfl, Nat.le_of_ble_eq_true rfl⟩ ⟨Nat.le_of_ble_eq_true rfl, Nat.le_of_ble_eq_true rfl⟩ dX7_litByAll_18) (fun H locs X => ?_)
      refine lv_iadd C.1 C.2.1 dX7_litByAll_21 ?_
      refine lv_istore_n (lv' := [(1, .int (x1 + r18)), (0, .ref (gB E + a0)), (2, .int x2)]) C.1 C.2.1 dX7_litByAll_22 rfl hl (by decide) rfl (fun ls hl => ?_)
      refine lv_iinc (v := (x2 + 1)) (lv' := [(2, .int (x2 + 1)), (1, .int (x1 + r18)), (0, .ref (gB E + a0))]) C.1 C.2.1 dX7_litByAll_23 hl (k := 2) rfl rfl (by decide) rfl (fun ls hl => ?_)
      refine lv_goto (tgt := 4) C.1 C.2.1 dX7_litByAll_26 (by decide) ?_
      exact ih X hk_a0 (lv_sub hl [2, 1, 0] rfl) h

set_option maxRecDepth 20000 in
theorem w_X7_litByAll {r : Int32} {σ : Mem} {a0 : Nat} {ls : Array Slot} {H : Heap} {locs : List Loc} (C : Cx p s m args meth c cX7_litByAll (some .int) 3 RX7) (G : Gf E s) (X : Hx E σ s H locs) (hk_a0 : kd a0 = 2) (hl : lv_has ls 3 [(0, .ref (gB E + a0))]) (h : X7_litByAll σ a0 = some r) : W p l e (RM 2) s m args below meth c H locs 0 0 (QI E below args s r σ) (F0 m 0 ls []) := by
  rw [X7_litByAll] at h
  refine lv_iconst (v := 0) C.1 C.2.1 dX7_litByAll_0 (by decide) ?_
  refine lv_istore_n (lv' := [(1, .int (0 : Int32)), (0, .ref (gB E + a0))]) C.1 C.2.1 dX7_litByAll_1 rfl hl (by decide) rfl (fun ls hl => ?_)
  refine lv_iconst (v := 0) C.1 C.2.1 dX7_litByAll_2 (by decide) ?_
  refine lv_istore_n (lv' := [(2, .int (0 : Int32)), (1, .int (0 : Int32)), (0, .ref (gB E + a0))]) C.1 C.2.1 dX7_litByAll_3 rfl hl (by decide) rfl (fun ls hl => ?_)
  exact w_X7_litByAll_4 C G FU X hk_a0 (lv_sub hl [2, 1, 0] rfl) h

theorem c_X7_litByAll (l : Launch) (E : GE) {σ : Mem} {a0 : Nat} (hk_a0 : kd a0 = 2) {r : Int32} (h : X7_litByAll σ a0 = some r) : CtI l E yX7_litByAll cX7_litByAll 3 .int 2 [.ref (gB E + a0)] σ r σ := by
  refine Met.ofW (cc := cX7_litByAll) (maxL := 3) (ret := (some .int)) (by decide) rfl ?_
  intro p e s m args below meth c s₁ B hml hv
  obtain ⟨rfl, G, X⟩ := start hv
  have C := cxof B hml
  have hl := lv_entry [.ref (gB E + a0)] (n := 3) (Nat.le_of_ble_eq_true rfl)
  rw [lg_entry_eq]
  generalize (lg_sl [.ref (gB E + a0)] ++ List.replicate (3 - (lg_sl [.ref (gB E + a0)]).length) Slot.unset).toArray = ls at hl ⊢
  exact w_X7_litByAll C G X hk_a0 hl h

set_option maxRecDepth 20000 in
theorem w_X7_partOf {r : Int32} {σ : Mem} {a0 : Nat} {x1 : Int32} {ls : Array Slot} {H : Heap} {locs : List Loc} (C : Cx p s m args meth c cX7_partOf (some .int) 3 RX7) (G : Gf E s) (X : Hx E σ s H locs) (hk_a0 : kd a0 = 2) (hl : lv_has ls 3 [(0, .ref (gB E + a0)), (1, .int x1)]) (h : X7_partOf σ a0 x1 = some r) : W p l e (RM 3) s m args below meth c H locs 0 0 (QI E below args s r σ) (F0 m 0 ls []) := by
  rw [X7_partOf] at h
  refine lv_aload_n C.1 C.2.1 dX7_partOf_0 rfl (lv_at hl 0 rfl) ?_
  obtain ⟨r1, e1, h⟩ := bnd h
  refine afI X (runV C G X q_X7_litByAll k_782 k_783 k_1246 (rcX7 G X hk_a0) (c_X7_litByAll l E hk_a0 e1) rfl hl.1 rfl (Nat.le_of_ble_eq_true rfl) ⟨Nat.le_of_ble_eq_true rfl, Nat.le_of_ble_eq_true rfl⟩ ⟨Nat.le_of_ble_eq_true rfl, Nat.le_of_ble_eq_true rfl⟩ dX7_partOf_1) (fun H locs X => ?_)
  refine lv_istore_n (lv' := [(2, .int r1), (0, .ref (gB E + a0)), (1, .int x1)]) C.1 C.2.1 dX7_partOf_4 rfl hl (by decide) rfl (fun ls hl => ?_)
  refine lv_iload_n C.1 C.2.1 dX7_partOf_5 rfl (lv_at hl 0 rfl) ?_
  refine lv_if_gt (tgt := 13) C.1 C.2.1 dX7_partOf_6 (by decide) (fun c6 => ?_) (fun c6 => ?_)
  · replace h := ipos c6 h
    refine lv_aload_n C.1 C.2.1 dX7_partOf_13 rfl (lv_at hl 1 rfl) ?_
    refine gfX7 C G X (k := a0) hk_a0 16 (v := .ref (gB E + (a0 + 15))) rfl rfl (by decide) k_258 rfl dX7_partOf_14 ?_
    refine lv_iload_n C.1 C.2.1 dX7_partOf_17 rfl (lv_at hl 2 rfl) ?_
    obtain ⟨r18, e18, h⟩ := bnd h
    refine afI X (runV C G X q_X6_get k_498 k_499 k_515 (rcX6 G X (kf_2_15 hk_a0)) (c_X6_get l E (kf_2_15 hk_a0) e18) rfl hl.1 rfl (Nat.le_of_ble_eq_true rfl) ⟨Nat.le_of_ble_eq_true rfl, Nat.le_of_ble_eq_true rfl⟩ ⟨Nat.le_of_ble_eq_true rfl, Nat.le_of_ble_eq_true rfl⟩ dX7_partOf_18) (fun H locs X => ?_)
    refine lv_bipush (v := 100) C.1 C.2.1 dX7_partOf_21 (by decide) ?_
    refine lv_imul C.1 C.2.1 dX7_partOf_23 ?_
    refine lv_iload_n C.1 C.2.1 dX7_partOf_24 rfl (lv_at hl 0 rfl) ?_
    obtain ⟨u25, z25, h⟩ := bnd h
    refine lv_idiv C.1 C.2.1 dX7_partOf_25 (gz_s z25) ?_
    rw [← Option.some.inj h]
    exact rtI C X dX7_partOf_26
  · replace h := ineg c6 h
    refine lv_iconst (v := 0) C.1 C.2.1 dX7_partOf_9 (by decide) ?_
    refine lv_goto (tgt := 26) C.1 C.2.1 dX7_partOf_10 (by decide) ?_
    rw [← Option.some.inj h]
    exact rtI C X dX7_partOf_26

theorem c_X7_partOf (l : Launch) (E : GE) {σ : Mem} {a0 : Nat} {x1 : Int32} (hk_a0 : kd a0 = 2) {r : Int32} (h : X7_partOf σ a0 x1 = some r) : CtI l E yX7_partOf cX7_partOf 3 .int 3 [.ref (gB E + a0), .int x1] σ r σ := by
  refine Met.ofW (cc := cX7_partOf) (maxL := 3) (ret := (some .int)) (by decide) rfl ?_
  intro p e s m args below meth c s₁ B hml hv
  obtain ⟨rfl, G, X⟩ := start hv
  have C := cxof B hml
  have hl := lv_entry [.ref (gB E + a0), .int x1] (n := 3) (Nat.le_of_ble_eq_true rfl)
  rw [lg_entry_eq]
  generalize (lg_sl [.ref (gB E + a0), .int x1] ++ List.replicate (3 - (lg_sl [.ref (gB E + a0), .int x1]).length) Slot.unset).toArray = ls at hl ⊢
  exact w_X7_partOf C G X hk_a0 hl h

set_option maxRecDepth 20000 in
theorem w_X11_walker {r : ((Int32 ⊕ Nat) × Mem)} {σ : Mem} {x1 : Int32} {x2 : Int32} {ls : Array Slot} {H : Heap} {locs : List Loc} (C : Cx p s m args meth c cX11_walker (some .int) 3 RX11) (G : Gf E s) (T0 : ∀ x ∈ c.exceptionTable.toList, False) (hT : l.stackTraces = false) (X : Hx E σ s H locs) (hl : lv_has ls 3 [(0, .ref (gB E + 0)), (1, .int x1), (2, .int x2)]) (h : X11_walker x1 x2 σ = some r) : W p l e (RX 13 2) s m args below meth c H locs 0 0 (QX E below args s 2 r.1 r.2) (F0 m 0 ls []) := by
  rw [X11_walker] at h
  refine lv_aload_n C.1 C.2.1 dX11_walker_0 rfl (lv_at hl 0 rfl) ?_
  refine lv_iload_n C.1 C.2.1 dX11_walker_1 rfl (lv_at hl 1 rfl) ?_
  rcases bndx h with ⟨r2, e2, h⟩ | ⟨x2_, e2, h⟩
  · refine axV X (runXV C G X q_X11_needWalker k_1216 kp_12 k_1214 (rcX11 G X kd_0) (c_X11_needWalker l E hT e2) rfl hl.1 rfl (Nat.le_of_ble_eq_true rfl) ⟨Nat.le_of_ble_eq_true rfl, Nat.le_of_ble_eq_true rfl⟩ ⟨Nat.le_of_ble_eq_true rfl, Nat.le_of_ble_eq_true rfl⟩ dX11_walker_2) (fun r9 H locs er X => ?_) (fun x9 H locs q9 ce er X hz hv hcl => nomatch er)
    refine lv_iload_n C.1 C.2.1 dX11_walker_5 rfl (lv_at hl 2 rfl) ?_
    by_cases c6_100 : x2 = (0 : Int32)
    · replace h := ipos c6_100 h
      refine lv_tableIn (off := 42) (tgt := 48) C.1 C.2.1 dX11_walker_6 (by rw [c6_100]; decide) (by rw [c6_100]; decide) (by rw [c6_100]; decide) (by decide) ?_
      refine lv_aload_n C.1 C.2.1 dX11_walker_48 rfl (lv_at hl 0 rfl) ?_
      refine gfX11 C G X (k := 0) kd_0 1 (v := .ref (gB E + 9)) rfl rfl (by decide) k_406 rfl dX11_walker_49 ?_
      refine gfX7 C G X (k := 9) kd_9 13 (v := .ref (gB E + 18)) rfl rfl (by decide) k_250 rfl dX11_walker_52 ?_
      refine lv_iload_n C.1 C.2.1 dX11_walker_55 rfl (lv_at hl 1 rfl) ?_
      obtain ⟨r56, e56, h⟩ := bnd h
      refine afI X (runV C G X q_X6_get k_498 k_499 k_1182 (rcX6 G X kd_18) (c_X6_get l E kd_18 e56) rfl hl.1 rfl (Nat.le_of_ble_eq_true rfl) ⟨Nat.le_of_ble_eq_true rfl, Nat.le_of_ble_eq_true rfl⟩ ⟨Nat.le_of_ble_eq_true rfl, Nat.le_of_ble_eq_true rfl⟩ dX11_walker_56) (fun H locs X => ?_)
      refine W.widen (k := 2) (n := 12) (Nat.le_of_ble_eq_true rfl) (Nat.le_of_ble_eq_true rfl) ?_
      rw [← Option.some.inj h]
      exact vx_ret (rtxI C X dX11_walker_59)
    · replace h := ineg c6_100 h
      have n6_100 := lv_neT c6_100 (a := 0) (by decide)
      by_cases c6_101 : x2 = (1 : Int32)
      · replace h := ipos c6_101 h
        refine lv_tableIn (off := 54) (tgt := 60) C.1 C.2.1 dX11_walker_6 (by rw [c6_101]; decide) (by rw [c6_101]; decide) (by rw [c6_101]; decide) (by decide) ?_
        refine lv_aload_n C.1 C.2.1 dX11_walker_60 rfl (lv_at hl 0 rfl) ?_
        refine gfX11 C G X (k := 0) kd_0 1 (v := .ref (gB E + 9)) rfl rfl (by decide) k_406 rfl dX11_walker_61 ?_
        refine gfX7 C G X (k := 9) kd_9 14 (v := .ref (gB E + 20)) rfl rfl (by decide) k_254 rfl dX11_walker_64 ?_
        refine lv_iload_n C.1 C.2.1 dX11_walker_67 rfl (lv_at hl 1 rfl) ?_
        obtain ⟨r68, e68, h⟩ := bnd h
        refine afI X (runV C G X q_X6_get k_498 k_499 k_1182 (rcX6 G X kd_20) (c_X6_get l E kd_20 e68) rfl hl.1 rfl (Nat.le_of_ble_eq_true rfl) ⟨Nat.le_of_ble_eq_true rfl, Nat.le_of_ble_eq_true rfl⟩ ⟨Nat.le_of_ble_eq_true rfl, Nat.le_of_ble_eq_true rfl⟩ dX11_walker_68) (fun H locs X => ?_)
        refine W.widen (k := 2) (n := 12) (Nat.le_of_ble_eq_true rfl) (Nat.le_of_ble_eq_true rfl) ?_
        rw [← Option.some.inj h]
        exact vx_ret (rtxI C X dX11_walker_71)
      · replace h := ineg c6_101 h
        have n6_101 := lv_neT c6_101 (a := 1) (by decide)
        by_cases c6_102 : x2 = (2 : Int32)
        · replace h := ipos c6_102 h
          refine lv_tableIn (off := 66) (tgt := 72) C.1 C.2.1 dX11_walker_6 (by rw [c6_102]; decide) (by rw [c6_102]; decide) (by rw [c6_102]; decide) (by decide) ?_
          refine lv_aload_n C.1 C.2.1 dX11_walker_72 rfl (lv_at hl 0 rfl) ?_
          refine gfX11 C G X (k := 0) kd_0 1 (v := .ref (gB E + 9)) rfl rfl (by decide) k_406 rfl dX11_walker_73 ?_
          refine gfX7 C G X (k := 9) kd_9 15 (v := .ref (gB E + 22)) rfl rfl (by decide) k_257 rfl dX11_walker_76 ?_
          refine lv_iload_n C.1 C.2.1 dX11_walker_79 rfl (lv_at hl 1 rfl) ?_
          obtain ⟨r80, e80, h⟩ := bnd h
          refine afI X (runV C G X q_X6_get k_498 k_499 k_1182 (rcX6 G X kd_22) (c_X6_get l E kd_22 e80) rfl hl.1 rfl (Nat.le_of_ble_eq_true rfl) ⟨Nat.le_of_ble_eq_true rfl, Nat.le_of_ble_eq_true rfl⟩ ⟨Nat.le_of_ble_eq_true rfl, Nat.le_of_ble_eq_true rfl⟩ dX11_walker_80) (fun H locs X => ?_)
          refine W.widen (k := 2) (n := 12) (Nat.le_of_ble_eq_true rfl) (Nat.le_of_ble_eq_true rfl) ?_
          rw [← Option.some.inj h]
          exact vx_ret (rtxI C X dX11_walker_83)
        · replace h := ineg c6_102 h
          have n6_102 := lv_neT c6_102 (a := 2) (by decide)
          by_cases c6_103 : x2 = (3 : Int32)
          · replace h := ipos c6_103 h
            refine lv_tableIn (off := 78) (tgt := 84) C.1 C.2.1 dX11_walker_6 (by rw [c6_103]; decide) (by rw [c6_103]; decide) (by rw [c6_103]; decide) (by decide) ?_
            refine lv_aload_n C.1 C.2.1 dX11_walker_84 rfl (lv_at hl 0 rfl) ?_
            refine gfX11 C G X (k := 0) kd_0 1 (v := .ref (gB E + 9)) rfl rfl (by decide) k_406 rfl dX11_walker_85 ?_
            refine gfX7 C G X (k := 9) kd_9 16 (v := .ref (gB E + 24)) rfl rfl (by decide) k_259 rfl dX11_walker_88 ?_
            refine lv_iload_n C.1 C.2.1 dX11_walker_91 rfl (lv_at hl 1 rfl) ?_
            obtain ⟨r92, e92, h⟩ := bnd h
            refine afI X (runV C G X q_X6_get k_498 k_499 k_1182 (rcX6 G X kd_24) (c_X6_get l E kd_24 e92) rfl hl.1 rfl (Nat.le_of_ble_eq_true rfl) ⟨Nat.le_of_ble_eq_true rfl, Nat.le_of_ble_eq_true rfl⟩ ⟨Nat.le_of_ble_eq_true rfl, Nat.le_of_ble_eq_true rfl⟩ dX11_walker_92) (fun H locs X => ?_)
            refine W.widen (k := 2) (n := 12) (Nat.le_of_ble_eq_true rfl) (Nat.le_of_ble_eq_true rfl) ?_
            rw [← Option.some.inj h]
            exact vx_ret (rtxI C X dX11_walker_95)
          · replace h := ineg c6_103 h
            have n6_103 := lv_neT c6_103 (a := 3) (by decide)
            by_cases c6_104 : x2 = (4 : Int32)
            · replace h := ipos c6_104 h
              refine lv_tableIn (off := 90) (tgt := 96) C.1 C.2.1 dX11_walker_6 (by rw [c6_104]; decide) (by rw [c6_104]; decide) (by rw [c6_104]; decide) (by decide) ?_
              refine lv_aload_n C.1 C.2.1 dX11_walker_96 rfl (lv_at hl 0 rfl) ?_
              refine gfX11 C G X (k := 0) kd_0 11 (v := .ref (gB E + 396)) rfl rfl (by decide) k_416 rfl dX11_walker_97 ?_
              refine lv_aload_n C.1 C.2.1 dX11_walker_100 rfl (lv_at hl 0 rfl) ?_
              refine gfX11 C G X (k := 0) kd_0 1 (v := .ref (gB E + 9)) rfl rfl (by decide) k_406 rfl dX11_walker_101 ?_
              refine lv_aload_n C.1 C.2.1 dX11_walker_104 rfl (lv_at hl 0 rfl) ?_
              refine gfX11 C G X (k := 0) kd_0 4 (v := .ref (gB E + 72)) rfl rfl (by decide) k_409 rfl dX11_walker_105 ?_
              refine lv_iload_n C.1 C.2.1 dX11_walker_108 rfl (lv_at hl 1 rfl) ?_
              obtain ⟨r109, σ109, e109, h⟩ := bnd2 h
              refine afI (r0 := r109) (σ' := σ109) X (runV C G X q_X1_tapersFor k_1220 k_1221 k_1219 (rcX1 G X kd_396) (c_X1_tapersFor l E kd_9 kd_72 e109) rfl hl.1 rfl (Nat.le_of_ble_eq_true rfl) ⟨Nat.le_of_ble_eq_true rfl, Nat.le_of_ble_eq_true rfl⟩ ⟨Nat.le_of_ble_eq_true rfl, Nat.le_of_ble_eq_true rfl⟩ dX11_walker_109) (fun H locs X => ?_)
              refine W.widen (k := 2) (n := 12) (Nat.le_of_ble_eq_true rfl) (Nat.le_of_ble_eq_true rfl) ?_
              rw [← Option.some.inj h]
              exact vx_ret (rtxI C X dX11_walker_112)
            · replace h := ineg c6_104 h
              have n6_104 := lv_neT c6_104 (a := 4) (by decide)
              by_cases c6_105 : x2 = (5 : Int32)
              · replace h := ipos c6_105 h
                refine lv_tableIn (off := 107) (tgt := 113) C.1 C.2.1 dX11_walker_6 (by rw [c6_105]; decide) (by rw [c6_105]; decide) (by rw [c6_105]; decide) (by decide) ?_
                refine lv_aload_n C.1 C.2.1 dX11_walker_113 rfl (lv_at hl 0 rfl) ?_
                refine gfX11 C G X (k := 0) kd_0 11 (v := .ref (gB E + 396)) rfl rfl (by decide) k_416 rfl dX11_walker_114 ?_
                refine lv_aload_n C.1 C.2.1 dX11_walker_117 rfl (lv_at hl 0 rfl) ?_
                refine gfX11 C G X (k := 0) kd_0 1 (v := .ref (gB E + 9)) rfl rfl (by decide) k_406 rfl dX11_walker_118 ?_
                refine lv_aload_n C.1 C.2.1 dX11_walker_121 rfl (lv_at hl 0 rfl) ?_
                refine gfX11 C G X (k := 0) kd_0 4 (v := .ref (gB E + 72)) rfl rfl (by decide) k_409 rfl dX11_walker_122 ?_
                refine lv_iload_n C.1 C.2.1 dX11_walker_125 rfl (lv_at hl 1 rfl) ?_
                obtain ⟨r126, σ126, e126, h⟩ := bnd2 h
                refine afI (r0 := r126) (σ' := σ126) X (runV C G X q_X1_turnOf k_1226 k_1227 k_1225 (rcX1 G X kd_396) (c_X1_turnOf l E kd_9 kd_72 e126) rfl hl.1 rfl (Nat.le_of_ble_eq_true rfl) ⟨Nat.le_of_ble_eq_true rfl, Nat.le_of_ble_eq_true rfl⟩ ⟨Nat.le_of_ble_eq_true rfl, Nat.le_of_ble_eq_true rfl⟩ dX11_walker_126) (fun H locs X => ?_)
                refine W.widen (k := 2) (n := 12) (Nat.le_of_ble_eq_true rfl) (Nat.le_of_ble_eq_true rfl) ?_
                rw [← Option.some.inj h]
                exact vx_ret (rtxI C X dX11_walker_129)
              · replace h := ineg c6_105 h
                have n6_105 := lv_neT c6_105 (a := 5) (by decide)
                by_cases c6_106 : x2 = (6 : Int32)
                · replace h := ipos c6_106 h
                  refine lv_tableIn (off := 124) (tgt := 130) C.1 C.2.1 dX11_walker_6 (by rw [c6_106]; decide) (by rw [c6_106]; decide) (by rw [c6_106]; decide) (by decide) ?_
                  refine lv_aload_n C.1 C.2.1 dX11_walker_130 rfl (lv_at hl 0 rfl) ?_
                  refine gfX11 C G X (k := 0) kd_0 1 (v := .ref (gB E + 9)) rfl rfl (by decide) k_406 rfl dX11_walker_131 ?_
                  refine lv_iload_n C.1 C.2.1 dX11_walker_134 rfl (lv_at hl 1 rfl) ?_
                  obtain ⟨r135, e135, h⟩ := bnd h
                  refine afI X (runV C G X q_X7_partOf k_1243 k_1244 k_1242 (rcX7 G X kd_9) (c_X7_partOf l E kd_9 e135) rfl hl.1 rfl (Nat.le_of_ble_eq_true rfl) ⟨Nat.le_of_ble_eq_true rfl, Nat.le_of_ble_eq_true rfl⟩ ⟨Nat.le_of_ble_eq_true rfl, Nat.le_of_ble_eq_true rfl⟩ dX11_walker_135) (fun H locs X => ?_)
                  refine W.widen (k := 2) (n := 12) (Nat.le_of_ble_eq_true rfl) (Nat.le_of_ble_eq_true rfl) ?_
                  rw [← Option.some.inj h]
                  exact vx_ret (rtxI C X dX11_walker_138)
                · replace h := ineg c6_106 h
                  have n6_106 := lv_neT c6_106 (a := 6) (by decide)
                  refine lv_tableOut (tgt := 139) C.1 C.2.1 dX11_walker_6 (by omega) (by decide) ?_
                  rw [← Option.some.inj h]
                  exact thS13 C G X T0 hT (x := 4) (cls := "java/util/NoSuchElementException") (text := "a walker has no such thing") (ik := 161) (is := 190) (ic := 165) rfl k_1191 k_130 (by decide +kernel) (by decide +kernel) hl.1 dX11_walker_139 dX11_walker_142 dX11_walker_143 dX11_walker_145 dX11_walker_148 (Nat.le_of_ble_eq_true rfl) (Nat.le_of_ble_eq_true rfl) (Nat.le_of_ble_eq_true rfl) (Nat.le_of_ble_eq_true rfl)
  · refine axV X (runXV C G X q_X11_needWalker k_1216 kp_12 k_1214 (rcX11 G X kd_0) (c_X11_needWalker l E hT e2) rfl hl.1 rfl (Nat.le_of_ble_eq_true rfl) ⟨Nat.le_of_ble_eq_true rfl, Nat.le_of_ble_eq_true rfl⟩ ⟨Nat.le_of_ble_eq_true rfl, Nat.le_of_ble_eq_true rfl⟩ dX11_walker_2) (fun r9 H locs er X => nomatch er) (fun x9 H locs q9 ce er X hz hv hcl => ?_)
    rw [← Sum.inr.inj er] at hcl
    rw [← Option.some.inj h]
    exact xout C X T0 hz hv hcl (Nat.le_of_ble_eq_true rfl) (Nat.le_of_ble_eq_true rfl)

theorem c_X11_walker (l : Launch) (E : GE) (hT : l.stackTraces = false) {σ : Mem} {x1 : Int32} {x2 : Int32} {r : ((Int32 ⊕ Nat) × Mem)} (h : X11_walker x1 x2 σ = some r) : CtX l E yX11_walker cX11_walker 3 .int 13 2 [.ref (gB E + 0), .int x1, .int x2] σ r.1 r.2 := by
  refine vx_ofW (cc := cX11_walker) (maxL := 3) (ret := (some .int)) (by decide) rfl ?_
  intro p e s m args below meth c s₁ B hml T0 hv
  obtain ⟨rfl, G, X⟩ := start hv
  have C := cxof B hml
  have hl := lv_entry [.ref (gB E + 0), .int x1, .int x2] (n := 3) (Nat.le_of_ble_eq_true rfl)
  rw [lg_entry_eq]
  generalize (lg_sl [.ref (gB E + 0), .int x1, .int x2] ++ List.replicate (3 - (lg_sl [.ref (gB E + 0), .int x1, .int x2]).length) Slot.unset).toArray = ls at hl ⊢
  exact w_X11_walker C G T0 hT X hl h

set_option maxRecDepth 20000 in
theorem w_X11_needTwoWalkers {r : (Int32 ⊕ Nat)} {σ : Mem} {x1 : Int32} {x2 : Int32} {ls : Array Slot} {H : Heap} {locs : List Loc} (C : Cx p s m args meth c cX11_needTwoWalkers none 3 RX11) (G : Gf E s) (T0 : ∀ x ∈ c.exceptionTable.toList, False) (hT : l.stackTraces = false) (X : Hx E σ s H locs) (hl : lv_has ls 3 [(0, .ref (gB E + 0)), (1, .int x1), (2, .int x2)]) (h : X11_needTwoWalkers σ x1 x2 = some r) : W p l e (RX 13 3) s m args below meth c H locs 0 0 (QXV E below args s 3 r σ) (F0 m 0 ls []) := by
  rw [X11_needTwoWalkers] at h
  refine lv_aload_n C.1 C.2.1 dX11_needTwoWalkers_0 rfl (lv_at hl 0 rfl) ?_
  refine lv_iload_n C.1 C.2.1 dX11_needTwoWalkers_1 rfl (lv_at hl 1 rfl) ?_
  rcases bndx h with ⟨r2, e2, h⟩ | ⟨x2_, e2, h⟩
  · refine axV X (runXV C G X q_X11_needWalker k_1216 kp_12 k_1214 (rcX11 G X kd_0) (c_X11_needWalker l E hT e2) rfl hl.1 rfl (Nat.le_of_ble_eq_true rfl) ⟨Nat.le_of_ble_eq_true rfl, Nat.le_of_ble_eq_true rfl⟩ ⟨Nat.le_of_ble_eq_true rfl, Nat.le_of_ble_eq_true rfl⟩ dX11_needTwoWalkers_2) (fun r9 H locs er X => ?_) (fun x9 H locs q9 ce er X hz hv hcl => nomatch er)
    refine lv_aload_n C.1 C.2.1 dX11_needTwoWalkers_5 rfl (lv_at hl 0 rfl) ?_
    refine lv_iload_n C.1 C.2.1 dX11_needTwoWalkers_6 rfl (lv_at hl 2 rfl) ?_
    rcases bndx h with ⟨r7, e7, h⟩ | ⟨x7_, e7, h⟩
    · refine axV X (runXV C G X q_X11_needWalker k_1216 kp_12 k_1214 (rcX11 G X kd_0) (c_X11_needWalker l E hT e7) rfl hl.1 rfl (Nat.le_of_ble_eq_true rfl) ⟨Nat.le_of_ble_eq_true rfl, Nat.le_of_ble_eq_true rfl⟩ ⟨Nat.le_of_ble_eq_true rfl, Nat.le_of_ble_eq_true rfl⟩ dX11_needTwoWalkers_7) (fun r9 H locs er X => ?_) (fun x9 H locs q9 ce er X hz hv hcl => nomatch er)
      refine lv_iload_n C.1 C.2.1 dX11_needTwoWalkers_10 rfl (lv_at hl 1 rfl) ?_
      refine lv_iload_n C.1 C.2.1 dX11_needTwoWalkers_11 rfl (lv_at hl 2 rfl) ?_
      refine lv_icmp_ne (tgt := 26) C.1 C.2.1 dX11_needTwoWalkers_12 (by decide) (fun c12 => ?_) (fun c12 => ?_)
      · replace h := ineg c12 h
        refine W.widen (k := 3) (n := 18) (Nat.le_of_ble_eq_true rfl) (Nat.le_of_ble_eq_true rfl) ?_
        rw [← Option.some.inj h]
        exact vx_ret (rtxV C X dX11_needTwoWalkers_26)
      · replace h := ipos c12 h
        rw [← Option.some.inj h]
        exact thSWV C G X T0 hT (x := 2) (cls := "java/lang/IllegalArgumentException") (text := "both walkers are one") (ik := 91) (is := 449) (ic := 95) rfl k_985 k_126 (by decide +kernel) (by decide +kernel) hl.1 dX11_needTwoWalkers_15 dX11_needTwoWalkers_18 dX11_needTwoWalkers_19 dX11_needTwoWalkers_22 dX11_needTwoWalkers_25 (Nat.le_of_ble_eq_true rfl) (Nat.le_of_ble_eq_true rfl) (Nat.le_of_ble_eq_true rfl) (Nat.le_of_ble_eq_true rfl)
    · refine axV X (runXV C G X q_X11_needWalker k_1216 kp_12 k_1214 (rcX11 G X kd_0) (c_X11_needWalker l E hT e7) rfl hl.1 rfl (Nat.le_of_ble_eq_true rfl) ⟨Nat.le_of_ble_eq_true rfl, Nat.le_of_ble_eq_true rfl⟩ ⟨Nat.le_of_ble_eq_true rfl, Nat.le_of_ble_eq_true rfl⟩ dX11_needTwoWalkers_7) (fun r9 H locs er X => nomatch er) (fun x9 H locs q9 ce er X hz hv hcl => ?_)
      rw [← Sum.inr.inj er] at hcl
      rw [← Option.some.inj h]
      exact xoutV C X T0 hz hv hcl (Nat.le_of_ble_eq_true rfl) (Nat.le_of_ble_eq_true rfl)
  · refine axV X (runXV C G X q_X11_needWalker k_1216 kp_12 k_1214 (rcX11 G X kd_0) (c_X11_needWalker l E hT e2) rfl hl.1 rfl (Nat.le_of_ble_eq_true rfl) ⟨Nat.le_of_ble_eq_true rfl, Nat.le_of_ble_eq_true rfl⟩ ⟨Nat.le_of_ble_eq_true rfl, Nat.le_of_ble_eq_true rfl⟩ dX11_needTwoWalkers_2) (fun r9 H locs er X => nomatch er) (fun x9 H locs q9 ce er X hz hv hcl => ?_)
    rw [← Sum.inr.inj er] at hcl
    rw [← Option.some.inj h]
    exact xoutV C X T0 hz hv hcl (Nat.le_of_ble_eq_true rfl) (Nat.le_of_ble_eq_true rfl)

theorem c_X11_needTwoWalkers (l : Launch) (E : GE) (hT : l.stackTraces = false) {σ : Mem} {x1 : Int32} {x2 : Int32} {r : (Int32 ⊕ Nat)} (h : X11_needTwoWalkers σ x1 x2 = some r) : CtXV l E yX11_needTwoWalkers cX11_needTwoWalkers 3 13 3 [.ref (gB E + 0), .int x1, .int x2] σ r σ := by
  refine vx_ofW (cc := cX11_needTwoWalkers) (maxL := 3) (ret := none) (by decide) rfl ?_
  intro p e s m args below meth c s₁ B hml T0 hv
  obtain ⟨rfl, G, X⟩ := start hv
  have C := cxof B hml
  have hl := lv_entry [.ref (gB E + 0), .int x1, .int x2] (n := 3) (Nat.le_of_ble_eq_true rfl)
  rw [lg_entry_eq]
  generalize (lg_sl [.ref (gB E + 0), .int x1, .int x2] ++ List.replicate (3 - (lg_sl [.ref (gB E + 0), .int x1, .int x2]).length) Slot.unset).toArray = ls at hl ⊢
  exact w_X11_needTwoWalkers C G T0 hT X hl h

set_option maxRecDepth 20000 in
theorem w_X11_likes {r : (Int32 ⊕ Nat)} {σ : Mem} {x1 : Int32} {x2 : Int32} {ls : Array Slot} {H : Heap} {locs : List Loc} (C : Cx p s m args meth c cX11_likes (some .int) 3 RX11) (G : Gf E s) (T0 : ∀ x ∈ c.exceptionTable.toList, False) (hT : l.stackTraces = false) (X : Hx E σ s H locs) (hl : lv_has ls 3 [(0, .ref (gB E + 0)), (1, .int x1), (2, .int x2)]) (h : X11_likes σ x1 x2 = some r) : W p l e (RX 14 3) s m args below meth c H locs 0 0 (QX E below args s 3 r σ) (F0 m 0 ls []) := by
  rw [X11_likes] at h
  refine lv_aload_n C.1 C.2.1 dX11_likes_0 rfl (lv_at hl 0 rfl) ?_
  refine lv_iload_n C.1 C.2.1 dX11_likes_1 rfl (lv_at hl 1 rfl) ?_
  refine lv_iload_n C.1 C.2.1 dX11_likes_2 rfl (lv_at hl 2 rfl) ?_
  rcases bndx h with ⟨r3, e3, h⟩ | ⟨x3_, e3, h⟩
  · refine axV X (runXV C G X q_X11_needTwoWalkers k_1257 kp_14 k_1255 (rcX11 G X kd_0) (c_X11_needTwoWalkers l E hT e3) rfl hl.1 rfl (Nat.le_of_ble_eq_true rfl) ⟨Nat.le_of_ble_eq_true rfl, Nat.le_of_ble_eq_true rfl⟩ ⟨Nat.le_of_ble_eq_true rfl, Nat.le_of_ble_eq_true rfl⟩ dX11_likes_3) (fun r9 H locs er X => ?_) (fun x9 H locs q9 ce er X hz hv hcl => nomatch er)
    refine lv_aload_n C.1 C.2.1 dX11_likes_6 rfl (lv_at hl 0 rfl) ?_
    refine gfX11 C G X (k := 0) kd_0 1 (v := .ref (gB E + 9)) rfl rfl (by decide) k_406 rfl dX11_likes_7 ?_
    refine lv_iload_n C.1 C.2.1 dX11_likes_10 rfl (lv_at hl 1 rfl) ?_
    refine lv_iload_n C.1 C.2.1 dX11_likes_11 rfl (lv_at hl 2 rfl) ?_
    obtain ⟨r12, e12, h⟩ := bnd h
    refine afI X (runV C G X q_X7_likesOf k_530 k_531 k_1260 (rcX7 G X kd_9) (c_X7_likesOf l E kd_9 e12) rfl hl.1 rfl (Nat.le_of_ble_eq_true rfl) ⟨Nat.le_of_ble_eq_true rfl, Nat.le_of_ble_eq_true rfl⟩ ⟨Nat.le_of_ble_eq_true rfl, Nat.le_of_ble_eq_true rfl⟩ dX11_likes_12) (fun H locs X => ?_)
    rw [← Option.some.inj h]
    exact vx_ret (rtxI C X dX11_likes_15)
  · refine axV X (runXV C G X q_X11_needTwoWalkers k_1257 kp_14 k_1255 (rcX11 G X kd_0) (c_X11_needTwoWalkers l E hT e3) rfl hl.1 rfl (Nat.le_of_ble_eq_true rfl) ⟨Nat.le_of_ble_eq_true rfl, Nat.le_of_ble_eq_true rfl⟩ ⟨Nat.le_of_ble_eq_true rfl, Nat.le_of_ble_eq_true rfl⟩ dX11_likes_3) (fun r9 H locs er X => nomatch er) (fun x9 H locs q9 ce er X hz hv hcl => ?_)
    rw [← Sum.inr.inj er] at hcl
    rw [← Option.some.inj h]
    exact xout C X T0 hz hv hcl (Nat.le_of_ble_eq_true rfl) (Nat.le_of_ble_eq_true rfl)

theorem c_X11_likes (l : Launch) (E : GE) (hT : l.stackTraces = false) {σ : Mem} {x1 : Int32} {x2 : Int32} {r : (Int32 ⊕ Nat)} (h : X11_likes σ x1 x2 = some r) : CtX l E yX11_likes cX11_likes 3 .int 14 3 [.ref (gB E + 0), .int x1, .int x2] σ r σ := by
  refine vx_ofW (cc := cX11_likes) (maxL := 3) (ret := (some .int)) (by decide) rfl ?_
  intro p e s m args below meth c s₁ B hml T0 hv
  obtain ⟨rfl, G, X⟩ := start hv
  have C := cxof B hml
  have hl := lv_entry [.ref (gB E + 0), .int x1, .int x2] (n := 3) (Nat.le_of_ble_eq_true rfl)
  rw [lg_entry_eq]
  generalize (lg_sl [.ref (gB E + 0), .int x1, .int x2] ++ List.replicate (3 - (lg_sl [.ref (gB E + 0), .int x1, .int x2]).length) Slot.unset).toArray = ls at hl ⊢
  exact w_X11_likes C G T0 hT X hl h

set_option maxRecDepth 20000 in
theorem w_X11_will {r : ((Int32 ⊕ Nat) × Mem)} {σ : Mem} {x1 : Int32} {x2 : Int32} {ls : Array Slot} {H : Heap} {locs : List Loc} (C : Cx p s m args meth c cX11_will (some .int) 3 RX11) (G : Gf E s) (T0 : ∀ x ∈ c.exceptionTable.toList, False) (hT : l.stackTraces = false) (X : Hx E σ s H locs) (hl : lv_has ls 3 [(0, .ref (gB E + 0)), (1, .int x1), (2, .int x2)]) (h : X11_will x1 x2 σ = some r) : W p l e (RX 13 2) s m args below meth c H locs 0 0 (QX E below args s 2 r.1 r.2) (F0 m 0 ls []) := by
  rw [X11_will] at h
  refine lv_aload_n C.1 C.2.1 dX11_will_0 rfl (lv_at hl 0 rfl) ?_
  refine lv_iload_n C.1 C.2.1 dX11_will_1 rfl (lv_at hl 1 rfl) ?_
  rcases bndx h with ⟨r2, e2, h⟩ | ⟨x2_, e2, h⟩
  · refine axV X (runXV C G X q_X11_needWalker k_1216 kp_12 k_1214 (rcX11 G X kd_0) (c_X11_needWalker l E hT e2) rfl hl.1 rfl (Nat.le_of_ble_eq_true rfl) ⟨Nat.le_of_ble_eq_true rfl, Nat.le_of_ble_eq_true rfl⟩ ⟨Nat.le_of_ble_eq_true rfl, Nat.le_of_ble_eq_true rfl⟩ dX11_will_2) (fun r9 H locs er X => ?_) (fun x9 H locs q9 ce er X hz hv hcl => nomatch er)
    refine lv_aload_n C.1 C.2.1 dX11_will_5 rfl (lv_at hl 0 rfl) ?_
    refine lv_iload_n C.1 C.2.1 dX11_will_6 rfl (lv_at hl 2 rfl) ?_
    rcases bndx h with ⟨r7, e7, h⟩ | ⟨x7_, e7, h⟩
    · refine axV X (runXV C G X q_X11_needPane k_1164 kp_11 k_1162 (rcX11 G X kd_0) (c_X11_needPane l E hT e7) rfl hl.1 rfl (Nat.le_of_ble_eq_true rfl) ⟨Nat.le_of_ble_eq_true rfl, Nat.le_of_ble_eq_true rfl⟩ ⟨Nat.le_of_ble_eq_true rfl, Nat.le_of_ble_eq_true rfl⟩ dX11_will_7) (fun r9 H locs er X => ?_) (fun x9 H locs q9 ce er X hz hv hcl => nomatch er)
      refine lv_aload_n C.1 C.2.1 dX11_will_10 rfl (lv_at hl 0 rfl) ?_
      refine gfX11 C G X (k := 0) kd_0 4 (v := .ref (gB E + 72)) rfl rfl (by decide) k_409 rfl dX11_will_11 ?_
      refine lv_aload_n C.1 C.2.1 dX11_will_14 rfl (lv_at hl 0 rfl) ?_
      refine gfX11 C G X (k := 0) kd_0 1 (v := .ref (gB E + 9)) rfl rfl (by decide) k_406 rfl dX11_will_15 ?_
      refine lv_iload_n C.1 C.2.1 dX11_will_18 rfl (lv_at hl 1 rfl) ?_
      refine lv_iload_n C.1 C.2.1 dX11_will_19 rfl (lv_at hl 2 rfl) ?_
      refine lv_aload_n C.1 C.2.1 dX11_will_20 rfl (lv_at hl 0 rfl) ?_
      refine gfX11 C G X (k := 0) kd_0 1 (v := .ref (gB E + 9)) rfl rfl (by decide) k_406 rfl dX11_will_21 ?_
      refine lv_iload_n C.1 C.2.1 dX11_will_24 rfl (lv_at hl 1 rfl) ?_
      refine lv_iload_n C.1 C.2.1 dX11_will_25 rfl (lv_at hl 2 rfl) ?_
      obtain ⟨r26, e26, h⟩ := bnd h
      refine afI X (runV C G X q_X7_likesFor k_526 k_527 k_1268 (rcX7 G X kd_9) (c_X7_likesFor l E kd_9 e26) rfl hl.1 rfl (Nat.le_of_ble_eq_true rfl) ⟨Nat.le_of_ble_eq_true rfl, Nat.le_of_ble_eq_true rfl⟩ ⟨Nat.le_of_ble_eq_true rfl, Nat.le_of_ble_eq_true rfl⟩ dX11_will_26) (fun H locs X => ?_)
      refine lv_aload_n C.1 C.2.1 dX11_will_29 rfl (lv_at hl 0 rfl) ?_
      refine gfX11 C G X (k := 0) kd_0 1 (v := .ref (gB E + 9)) rfl rfl (by decide) k_406 rfl dX11_will_30 ?_
      refine gfX7 C G X (k := 9) kd_9 14 (v := .ref (gB E + 20)) rfl rfl (by decide) k_254 rfl dX11_will_33 ?_
      refine lv_iload_n C.1 C.2.1 dX11_will_36 rfl (lv_at hl 1 rfl) ?_
      obtain ⟨r37, e37, h⟩ := bnd h
      refine afI X (runV C G X q_X6_get k_498 k_499 k_1182 (rcX6 G X kd_20) (c_X6_get l E kd_20 e37) rfl hl.1 rfl (Nat.le_of_ble_eq_true rfl) ⟨Nat.le_of_ble_eq_true rfl, Nat.le_of_ble_eq_true rfl⟩ ⟨Nat.le_of_ble_eq_true rfl, Nat.le_of_ble_eq_true rfl⟩ dX11_will_37) (fun H locs X => ?_)
      obtain ⟨σ40, e40, h⟩ := bnd h
      refine afV X (runV C G X q_X3_look k_543 k_544 k_1269 (rcX3 G X kd_72) (c_X3_look l E kd_72 kd_9 e40) rfl hl.1 rfl (Nat.le_of_ble_eq_true rfl) ⟨Nat.le_of_ble_eq_true rfl, Nat.le_of_ble_eq_true rfl⟩ ⟨Nat.le_of_ble_eq_true rfl, Nat.le_of_ble_eq_true rfl⟩ dX11_will_40) (fun H locs X => ?_)
      refine lv_aload_n C.1 C.2.1 dX11_will_43 rfl (lv_at hl 0 rfl) ?_
      refine gfX11 C G X (k := 0) kd_0 4 (v := .ref (gB E + 72)) rfl rfl (by decide) k_409 rfl dX11_will_44 ?_
      obtain ⟨r47, σ47, e47, h⟩ := bnd2 h
      refine afI (r0 := r47) (σ' := σ47) X (runV C G X q_X3_willNow k_564 k_565 k_1270 (rcX3 G X kd_72) (c_X3_willNow l E kd_72 e47) rfl hl.1 rfl (Nat.le_of_ble_eq_true rfl) ⟨Nat.le_of_ble_eq_true rfl, Nat.le_of_ble_eq_true rfl⟩ ⟨Nat.le_of_ble_eq_true rfl, Nat.le_of_ble_eq_true rfl⟩ dX11_will_47) (fun H locs X => ?_)
      rw [← Option.some.inj h]
      exact vx_ret (rtxI C X dX11_will_50)
    · refine axV X (runXV C G X q_X11_needPane k_1164 kp_11 k_1162 (rcX11 G X kd_0) (c_X11_needPane l E hT e7) rfl hl.1 rfl (Nat.le_of_ble_eq_true rfl) ⟨Nat.le_of_ble_eq_true rfl, Nat.le_of_ble_eq_true rfl⟩ ⟨Nat.le_of_ble_eq_true rfl, Nat.le_of_ble_eq_true rfl⟩ dX11_will_7) (fun r9 H locs er X => nomatch er) (fun x9 H locs q9 ce er X hz hv hcl => ?_)
      rw [← Sum.inr.inj er] at hcl
      rw [← Option.some.inj h]
      exact xout C X T0 hz hv hcl (Nat.le_of_ble_eq_true rfl) (Nat.le_of_ble_eq_true rfl)
  · refine axV X (runXV C G X q_X11_needWalker k_1216 kp_12 k_1214 (rcX11 G X kd_0) (c_X11_needWalker l E hT e2) rfl hl.1 rfl (Nat.le_of_ble_eq_true rfl) ⟨Nat.le_of_ble_eq_true rfl, Nat.le_of_ble_eq_true rfl⟩ ⟨Nat.le_of_ble_eq_true rfl, Nat.le_of_ble_eq_true rfl⟩ dX11_will_2) (fun r9 H locs er X => nomatch er) (fun x9 H locs q9 ce er X hz hv hcl => ?_)
    rw [← Sum.inr.inj er] at hcl
    rw [← Option.some.inj h]
    exact xout C X T0 hz hv hcl (Nat.le_of_ble_eq_true rfl) (Nat.le_of_ble_eq_true rfl)

theorem c_X11_will (l : Launch) (E : GE) (hT : l.stackTraces = false) {σ : Mem} {x1 : Int32} {x2 : Int32} {r : ((Int32 ⊕ Nat) × Mem)} (h : X11_will x1 x2 σ = some r) : CtX l E yX11_will cX11_will 3 .int 13 2 [.ref (gB E + 0), .int x1, .int x2] σ r.1 r.2 := by
  refine vx_ofW (cc := cX11_will) (maxL := 3) (ret := (some .int)) (by decide) rfl ?_
  intro p e s m args below meth c s₁ B hml T0 hv
  obtain ⟨rfl, G, X⟩ := start hv
  have C := cxof B hml
  have hl := lv_entry [.ref (gB E + 0), .int x1, .int x2] (n := 3) (Nat.le_of_ble_eq_true rfl)
  rw [lg_entry_eq]
  generalize (lg_sl [.ref (gB E + 0), .int x1, .int x2] ++ List.replicate (3 - (lg_sl [.ref (gB E + 0), .int x1, .int x2]).length) Slot.unset).toArray = ls at hl ⊢
  exact w_X11_will C G T0 hT X hl h

set_option maxRecDepth 20000 in
theorem w_X11_lights {r : ((Int32 ⊕ Nat) × Mem)} {σ : Mem} {x1 : Int32} {x2 : Int32} {ls : Array Slot} {H : Heap} {locs : List Loc} (C : Cx p s m args meth c cX11_lights (some .boolean) 3 RX11) (G : Gf E s) (T0 : ∀ x ∈ c.exceptionTable.toList, False) (hT : l.stackTraces = false) (X : Hx E σ s H locs) (hl : lv_has ls 3 [(0, .ref (gB E + 0)), (1, .int x1), (2, .int x2)]) (h : X11_lights x1 x2 σ = some r) : W p l e (RX 13 2) s m args below meth c H locs 0 0 (QX E below args s 2 r.1 r.2) (F0 m 0 ls []) := by
  rw [X11_lights] at h
  refine lv_aload_n C.1 C.2.1 dX11_lights_0 rfl (lv_at hl 0 rfl) ?_
  refine lv_iload_n C.1 C.2.1 dX11_lights_1 rfl (lv_at hl 1 rfl) ?_
  rcases bndx h with ⟨r2, e2, h⟩ | ⟨x2_, e2, h⟩
  · refine axV X (runXV C G X q_X11_needWalker k_1216 kp_12 k_1214 (rcX11 G X kd_0) (c_X11_needWalker l E hT e2) rfl hl.1 rfl (Nat.le_of_ble_eq_true rfl) ⟨Nat.le_of_ble_eq_true rfl, Nat.le_of_ble_eq_true rfl⟩ ⟨Nat.le_of_ble_eq_true rfl, Nat.le_of_ble_eq_true rfl⟩ dX11_lights_2) (fun r9 H locs er X => ?_) (fun x9 H locs q9 ce er X hz hv hcl => nomatch er)
    refine lv_aload_n C.1 C.2.1 dX11_lights_5 rfl (lv_at hl 0 rfl) ?_
    refine lv_iload_n C.1 C.2.1 dX11_lights_6 rfl (lv_at hl 2 rfl) ?_
    rcases bndx h with ⟨r7, e7, h⟩ | ⟨x7_, e7, h⟩
    · refine axV X (runXV C G X q_X11_needPane k_1164 kp_11 k_1162 (rcX11 G X kd_0) (c_X11_needPane l E hT e7) rfl hl.1 rfl (Nat.le_of_ble_eq_true rfl) ⟨Nat.le_of_ble_eq_true rfl, Nat.le_of_ble_eq_true rfl⟩ ⟨Nat.le_of_ble_eq_true rfl, Nat.le_of_ble_eq_true rfl⟩ dX11_lights_7) (fun r9 H locs er X => ?_) (fun x9 H locs q9 ce er X hz hv hcl => nomatch er)
      refine lv_aload_n C.1 C.2.1 dX11_lights_10 rfl (lv_at hl 0 rfl) ?_
      refine gfX11 C G X (k := 0) kd_0 4 (v := .ref (gB E + 72)) rfl rfl (by decide) k_409 rfl dX11_lights_11 ?_
      refine lv_aload_n C.1 C.2.1 dX11_lights_14 rfl (lv_at hl 0 rfl) ?_
      refine gfX11 C G X (k := 0) kd_0 1 (v := .ref (gB E + 9)) rfl rfl (by decide) k_406 rfl dX11_lights_15 ?_
      refine lv_iload_n C.1 C.2.1 dX11_lights_18 rfl (lv_at hl 1 rfl) ?_
      refine lv_iload_n C.1 C.2.1 dX11_lights_19 rfl (lv_at hl 2 rfl) ?_
      refine lv_aload_n C.1 C.2.1 dX11_lights_20 rfl (lv_at hl 0 rfl) ?_
      refine gfX11 C G X (k := 0) kd_0 1 (v := .ref (gB E + 9)) rfl rfl (by decide) k_406 rfl dX11_lights_21 ?_
      refine lv_iload_n C.1 C.2.1 dX11_lights_24 rfl (lv_at hl 1 rfl) ?_
      refine lv_iload_n C.1 C.2.1 dX11_lights_25 rfl (lv_at hl 2 rfl) ?_
      obtain ⟨r26, e26, h⟩ := bnd h
      refine afI X (runV C G X q_X7_likesFor k_526 k_527 k_1268 (rcX7 G X kd_9) (c_X7_likesFor l E kd_9 e26) rfl hl.1 rfl (Nat.le_of_ble_eq_true rfl) ⟨Nat.le_of_ble_eq_true rfl, Nat.le_of_ble_eq_true rfl⟩ ⟨Nat.le_of_ble_eq_true rfl, Nat.le_of_ble_eq_true rfl⟩ dX11_lights_26) (fun H locs X => ?_)
      refine lv_aload_n C.1 C.2.1 dX11_lights_29 rfl (lv_at hl 0 rfl) ?_
      refine gfX11 C G X (k := 0) kd_0 1 (v := .ref (gB E + 9)) rfl rfl (by decide) k_406 rfl dX11_lights_30 ?_
      refine gfX7 C G X (k := 9) kd_9 14 (v := .ref (gB E + 20)) rfl rfl (by decide) k_254 rfl dX11_lights_33 ?_
      refine lv_iload_n C.1 C.2.1 dX11_lights_36 rfl (lv_at hl 1 rfl) ?_
      obtain ⟨r37, e37, h⟩ := bnd h
      refine afI X (runV C G X q_X6_get k_498 k_499 k_1182 (rcX6 G X kd_20) (c_X6_get l E kd_20 e37) rfl hl.1 rfl (Nat.le_of_ble_eq_true rfl) ⟨Nat.le_of_ble_eq_true rfl, Nat.le_of_ble_eq_true rfl⟩ ⟨Nat.le_of_ble_eq_true rfl, Nat.le_of_ble_eq_true rfl⟩ dX11_lights_37) (fun H locs X => ?_)
      obtain ⟨r40, σ40, e40, h⟩ := bnd2 h
      refine afI (r0 := r40) (σ' := σ40) X (runV C G X q_X3_letsLight k_534 k_535 k_1278 (rcX3 G X kd_72) (c_X3_letsLight l E kd_72 kd_9 e40) rfl hl.1 rfl (Nat.le_of_ble_eq_true rfl) ⟨Nat.le_of_ble_eq_true rfl, Nat.le_of_ble_eq_true rfl⟩ ⟨Nat.le_of_ble_eq_true rfl, Nat.le_of_ble_eq_true rfl⟩ dX11_lights_40) (fun H locs X => ?_)
      obtain ⟨u43, z43, h⟩ := bnd h
      rw [← Option.some.inj h]
      exact vx_ret (rtxZ C X (gb_s z43) dX11_lights_43)
    · refine axV X (runXV C G X q_X11_needPane k_1164 kp_11 k_1162 (rcX11 G X kd_0) (c_X11_needPane l E hT e7) rfl hl.1 rfl (Nat.le_of_ble_eq_true rfl) ⟨Nat.le_of_ble_eq_true rfl, Nat.le_of_ble_eq_true rfl⟩ ⟨Nat.le_of_ble_eq_true rfl, Nat.le_of_ble_eq_true rfl⟩ dX11_lights_7) (fun r9 H locs er X => nomatch er) (fun x9 H locs q9 ce er X hz hv hcl => ?_)
      rw [← Sum.inr.inj er] at hcl
      rw [← Option.some.inj h]
      exact xout C X T0 hz hv hcl (Nat.le_of_ble_eq_true rfl) (Nat.le_of_ble_eq_true rfl)
  · refine axV X (runXV C G X q_X11_needWalker k_1216 kp_12 k_1214 (rcX11 G X kd_0) (c_X11_needWalker l E hT e2) rfl hl.1 rfl (Nat.le_of_ble_eq_true rfl) ⟨Nat.le_of_ble_eq_true rfl, Nat.le_of_ble_eq_true rfl⟩ ⟨Nat.le_of_ble_eq_true rfl, Nat.le_of_ble_eq_true rfl⟩ dX11_lights_2) (fun r9 H locs er X => nomatch er) (fun x9 H locs q9 ce er X hz hv hcl => ?_)
    rw [← Sum.inr.inj er] at hcl
    rw [← Option.some.inj h]
    exact xout C X T0 hz hv hcl (Nat.le_of_ble_eq_true rfl) (Nat.le_of_ble_eq_true rfl)

theorem c_X11_lights (l : Launch) (E : GE) (hT : l.stackTraces = false) {σ : Mem} {x1 : Int32} {x2 : Int32} {r : ((Int32 ⊕ Nat) × Mem)} (h : X11_lights x1 x2 σ = some r) : CtX l E yX11_lights cX11_lights 3 .boolean 13 2 [.ref (gB E + 0), .int x1, .int x2] σ r.1 r.2 := by
  refine vx_ofW (cc := cX11_lights) (maxL := 3) (ret := (some .boolean)) (by decide) rfl ?_
  intro p e s m args below meth c s₁ B hml T0 hv
  obtain ⟨rfl, G, X⟩ := start hv
  have C := cxof B hml
  have hl := lv_entry [.ref (gB E + 0), .int x1, .int x2] (n := 3) (Nat.le_of_ble_eq_true rfl)
  rw [lg_entry_eq]
  generalize (lg_sl [.ref (gB E + 0), .int x1, .int x2] ++ List.replicate (3 - (lg_sl [.ref (gB E + 0), .int x1, .int x2]).length) Slot.unset).toArray = ls at hl ⊢
  exact w_X11_lights C G T0 hT X hl h

set_option maxRecDepth 20000 in
theorem w_X11_needTwoPanes {r : (Int32 ⊕ Nat)} {σ : Mem} {x1 : Int32} {x2 : Int32} {ls : Array Slot} {H : Heap} {locs : List Loc} (C : Cx p s m args meth c cX11_needTwoPanes none 3 RX11) (G : Gf E s) (T0 : ∀ x ∈ c.exceptionTable.toList, False) (hT : l.stackTraces = false) (X : Hx E σ s H locs) (hl : lv_has ls 3 [(0, .ref (gB E + 0)), (1, .int x1), (2, .int x2)]) (h : X11_needTwoPanes σ x1 x2 = some r) : W p l e (RX 13 3) s m args below meth c H locs 0 0 (QXV E below args s 3 r σ) (F0 m 0 ls []) := by
  rw [X11_needTwoPanes] at h
  refine lv_aload_n C.1 C.2.1 dX11_needTwoPanes_0 rfl (lv_at hl 0 rfl) ?_
  refine lv_iload_n C.1 C.2.1 dX11_needTwoPanes_1 rfl (lv_at hl 1 rfl) ?_
  rcases bndx h with ⟨r2, e2, h⟩ | ⟨x2_, e2, h⟩
  · refine axV X (runXV C G X q_X11_needPane k_1164 kp_11 k_1162 (rcX11 G X kd_0) (c_X11_needPane l E hT e2) rfl hl.1 rfl (Nat.le_of_ble_eq_true rfl) ⟨Nat.le_of_ble_eq_true rfl, Nat.le_of_ble_eq_true rfl⟩ ⟨Nat.le_of_ble_eq_true rfl, Nat.le_of_ble_eq_true rfl⟩ dX11_needTwoPanes_2) (fun r9 H locs er X => ?_) (fun x9 H locs q9 ce er X hz hv hcl => nomatch er)
    refine lv_aload_n C.1 C.2.1 dX11_needTwoPanes_5 rfl (lv_at hl 0 rfl) ?_
    refine lv_iload_n C.1 C.2.1 dX11_needTwoPanes_6 rfl (lv_at hl 2 rfl) ?_
    rcases bndx h with ⟨r7, e7, h⟩ | ⟨x7_, e7, h⟩
    · refine axV X (runXV C G X q_X11_needPane k_1164 kp_11 k_1162 (rcX11 G X kd_0) (c_X11_needPane l E hT e7) rfl hl.1 rfl (Nat.le_of_ble_eq_true rfl) ⟨Nat.le_of_ble_eq_true rfl, Nat.le_of_ble_eq_true rfl⟩ ⟨Nat.le_of_ble_eq_true rfl, Nat.le_of_ble_eq_true rfl⟩ dX11_needTwoPanes_7) (fun r9 H locs er X => ?_) (fun x9 H locs q9 ce er X hz hv hcl => nomatch er)
      refine lv_iload_n C.1 C.2.1 dX11_needTwoPanes_10 rfl (lv_at hl 1 rfl) ?_
      refine lv_iload_n C.1 C.2.1 dX11_needTwoPanes_11 rfl (lv_at hl 2 rfl) ?_
      refine lv_icmp_ne (tgt := 26) C.1 C.2.1 dX11_needTwoPanes_12 (by decide) (fun c12 => ?_) (fun c12 => ?_)
      · replace h := ineg c12 h
        refine W.widen (k := 3) (n := 18) (Nat.le_of_ble_eq_true rfl) (Nat.le_of_ble_eq_true rfl) ?_
        rw [← Option.some.inj h]
        exact vx_ret (rtxV C X dX11_needTwoPanes_26)
      · replace h := ipos c12 h
        rw [← Option.some.inj h]
        exact thSWV C G X T0 hT (x := 2) (cls := "java/lang/IllegalArgumentException") (text := "both panes are one") (ik := 91) (is := 447) (ic := 95) rfl k_985 k_126 (by decide +kernel) (by decide +kernel) hl.1 dX11_needTwoPanes_15 dX11_needTwoPanes_18 dX11_needTwoPanes_19 dX11_needTwoPanes_22 dX11_needTwoPanes_25 (Nat.le_of_ble_eq_true rfl) (Nat.le_of_ble_eq_true rfl) (Nat.le_of_ble_eq_true rfl) (Nat.le_of_ble_eq_true rfl)
    · refine axV X (runXV C G X q_X11_needPane k_1164 kp_11 k_1162 (rcX11 G X kd_0) (c_X11_needPane l E hT e7) rfl hl.1 rfl (Nat.le_of_ble_eq_true rfl) ⟨Nat.le_of_ble_eq_true rfl, Nat.le_of_ble_eq_true rfl⟩ ⟨Nat.le_of_ble_eq_true rfl, Nat.le_of_ble_eq_true rfl⟩ dX11_needTwoPanes_7) (fun r9 H locs er X => nomatch er) (fun x9 H locs q9 ce er X hz hv hcl => ?_)
      rw [← Sum.inr.inj er] at hcl
      rw [← Option.some.inj h]
      exact xoutV C X T0 hz hv hcl (Nat.le_of_ble_eq_true rfl) (Nat.le_of_ble_eq_true rfl)
  · refine axV X (runXV C G X q_X11_needPane k_1164 kp_11 k_1162 (rcX11 G X kd_0) (c_X11_needPane l E hT e2) rfl hl.1 rfl (Nat.le_of_ble_eq_true rfl) ⟨Nat.le_of_ble_eq_true rfl, Nat.le_of_ble_eq_true rfl⟩ ⟨Nat.le_of_ble_eq_true rfl, Nat.le_of_ble_eq_true rfl⟩ dX11_needTwoPanes_2) (fun r9 H locs er X => nomatch er) (fun x9 H locs q9 ce er X hz hv hcl => ?_)
    rw [← Sum.inr.inj er] at hcl
    rw [← Option.some.inj h]
    exact xoutV C X T0 hz hv hcl (Nat.le_of_ble_eq_true rfl) (Nat.le_of_ble_eq_true rfl)

theorem c_X11_needTwoPanes (l : Launch) (E : GE) (hT : l.stackTraces = false) {σ : Mem} {x1 : Int32} {x2 : Int32} {r : (Int32 ⊕ Nat)} (h : X11_needTwoPanes σ x1 x2 = some r) : CtXV l E yX11_needTwoPanes cX11_needTwoPanes 3 13 3 [.ref (gB E + 0), .int x1, .int x2] σ r σ := by
  refine vx_ofW (cc := cX11_needTwoPanes) (maxL := 3) (ret := none) (by decide) rfl ?_
  intro p e s m args below meth c s₁ B hml T0 hv
  obtain ⟨rfl, G, X⟩ := start hv
  have C := cxof B hml
  have hl := lv_entry [.ref (gB E + 0), .int x1, .int x2] (n := 3) (Nat.le_of_ble_eq_true rfl)
  rw [lg_entry_eq]
  generalize (lg_sl [.ref (gB E + 0), .int x1, .int x2] ++ List.replicate (3 - (lg_sl [.ref (gB E + 0), .int x1, .int x2]).length) Slot.unset).toArray = ls at hl ⊢
  exact w_X11_needTwoPanes C G T0 hT X hl h

set_option maxRecDepth 20000 in
theorem w_X7_hasWay {r : Int32} {σ : Mem} {a0 : Nat} {x1 : Int32} {x2 : Int32} {ls : Array Slot} {H : Heap} {locs : List Loc} (C : Cx p s m args meth c cX7_hasWay (some .boolean) 3 RX7) (G : Gf E s) (X : Hx E σ s H locs) (hk_a0 : kd a0 = 2) (hl : lv_has ls 3 [(0, .ref (gB E + a0)), (1, .int x1), (2, .int x2)]) (h : X7_hasWay σ a0 x1 x2 = some r) : W p l e (RM 2) s m args below meth c H locs 0 0 (QI E below args s r σ) (F0 m 0 ls []) := by
  rw [X7_hasWay] at h
  refine lv_aload_n C.1 C.2.1 dX7_hasWay_0 rfl (lv_at hl 0 rfl) ?_
  refine gfX7 C G X (k := a0) hk_a0 12 (v := .ref (gB E + (a0 + 7))) rfl rfl (by decide) k_245 rfl dX7_hasWay_1 ?_
  refine lv_iload_n C.1 C.2.1 dX7_hasWay_4 rfl (lv_at hl 1 rfl) ?_
  obtain ⟨r5, e5, h⟩ := bnd h
  refine afI X (runV C G X q_X6_get k_498 k_499 k_515 (rcX6 G X (kf_2_7 hk_a0)) (c_X6_get l E (kf_2_7 hk_a0) e5) rfl hl.1 rfl (Nat.le_of_ble_eq_true rfl) ⟨Nat.le_of_ble_eq_true rfl, Nat.le_of_ble_eq_true rfl⟩ ⟨Nat.le_of_ble_eq_true rfl, Nat.le_of_ble_eq_true rfl⟩ dX7_hasWay_5) (fun H locs X => ?_)
  refine lv_iload_n C.1 C.2.1 dX7_hasWay_8 rfl (lv_at hl 2 rfl) ?_
  obtain ⟨r9, e9, h⟩ := bnd h
  refine afI X (runN C G X q_X11_hasBit k_509 nw_9 (c_X11_hasBit l E e9) rfl hl.1 rfl (Nat.le_of_ble_eq_true rfl) ⟨Nat.le_of_ble_eq_true rfl, Nat.le_of_ble_eq_true rfl⟩ ⟨Nat.le_of_ble_eq_true rfl, Nat.le_of_ble_eq_true rfl⟩ dX7_hasWay_9) (fun H locs X => ?_)
  obtain ⟨u12, z12, h⟩ := bnd h
  rw [← Option.some.inj h]
  exact rtZ C X (gb_s z12) dX7_hasWay_12

theorem c_X7_hasWay (l : Launch) (E : GE) {σ : Mem} {a0 : Nat} {x1 : Int32} {x2 : Int32} (hk_a0 : kd a0 = 2) {r : Int32} (h : X7_hasWay σ a0 x1 x2 = some r) : CtI l E yX7_hasWay cX7_hasWay 3 .boolean 2 [.ref (gB E + a0), .int x1, .int x2] σ r σ := by
  refine Met.ofW (cc := cX7_hasWay) (maxL := 3) (ret := (some .boolean)) (by decide) rfl ?_
  intro p e s m args below meth c s₁ B hml hv
  obtain ⟨rfl, G, X⟩ := start hv
  have C := cxof B hml
  have hl := lv_entry [.ref (gB E + a0), .int x1, .int x2] (n := 3) (Nat.le_of_ble_eq_true rfl)
  rw [lg_entry_eq]
  generalize (lg_sl [.ref (gB E + a0), .int x1, .int x2] ++ List.replicate (3 - (lg_sl [.ref (gB E + a0), .int x1, .int x2]).length) Slot.unset).toArray = ls at hl ⊢
  exact w_X7_hasWay C G X hk_a0 hl h

set_option maxRecDepth 20000 in
theorem w_X11_isOpen {r : (Int32 ⊕ Nat)} {σ : Mem} {x1 : Int32} {x2 : Int32} {ls : Array Slot} {H : Heap} {locs : List Loc} (C : Cx p s m args meth c cX11_isOpen (some .boolean) 3 RX11) (G : Gf E s) (T0 : ∀ x ∈ c.exceptionTable.toList, False) (hT : l.stackTraces = false) (X : Hx E σ s H locs) (hl : lv_has ls 3 [(0, .ref (gB E + 0)), (1, .int x1), (2, .int x2)]) (h : X11_isOpen σ x1 x2 = some r) : W p l e (RX 14 3) s m args below meth c H locs 0 0 (QX E below args s 3 r σ) (F0 m 0 ls []) := by
  rw [X11_isOpen] at h
  refine lv_aload_n C.1 C.2.1 dX11_isOpen_0 rfl (lv_at hl 0 rfl) ?_
  refine lv_iload_n C.1 C.2.1 dX11_isOpen_1 rfl (lv_at hl 1 rfl) ?_
  refine lv_iload_n C.1 C.2.1 dX11_isOpen_2 rfl (lv_at hl 2 rfl) ?_
  rcases bndx h with ⟨r3, e3, h⟩ | ⟨x3_, e3, h⟩
  · refine axV X (runXV C G X q_X11_needTwoPanes k_1288 kp_15 k_1286 (rcX11 G X kd_0) (c_X11_needTwoPanes l E hT e3) rfl hl.1 rfl (Nat.le_of_ble_eq_true rfl) ⟨Nat.le_of_ble_eq_true rfl, Nat.le_of_ble_eq_true rfl⟩ ⟨Nat.le_of_ble_eq_true rfl, Nat.le_of_ble_eq_true rfl⟩ dX11_isOpen_3) (fun r9 H locs er X => ?_) (fun x9 H locs q9 ce er X hz hv hcl => nomatch er)
    refine lv_aload_n C.1 C.2.1 dX11_isOpen_6 rfl (lv_at hl 0 rfl) ?_
    refine gfX11 C G X (k := 0) kd_0 1 (v := .ref (gB E + 9)) rfl rfl (by decide) k_406 rfl dX11_isOpen_7 ?_
    refine lv_iload_n C.1 C.2.1 dX11_isOpen_10 rfl (lv_at hl 1 rfl) ?_
    refine lv_iload_n C.1 C.2.1 dX11_isOpen_11 rfl (lv_at hl 2 rfl) ?_
    obtain ⟨r12, e12, h⟩ := bnd h
    refine afI X (runV C G X q_X7_hasWay k_1292 k_1293 k_1291 (rcX7 G X kd_9) (c_X7_hasWay l E kd_9 e12) rfl hl.1 rfl (Nat.le_of_ble_eq_true rfl) ⟨Nat.le_of_ble_eq_true rfl, Nat.le_of_ble_eq_true rfl⟩ ⟨Nat.le_of_ble_eq_true rfl, Nat.le_of_ble_eq_true rfl⟩ dX11_isOpen_12) (fun H locs X => ?_)
    obtain ⟨u15, z15, h⟩ := bnd h
    rw [← Option.some.inj h]
    exact vx_ret (rtxZ C X (gb_s z15) dX11_isOpen_15)
  · refine axV X (runXV C G X q_X11_needTwoPanes k_1288 kp_15 k_1286 (rcX11 G X kd_0) (c_X11_needTwoPanes l E hT e3) rfl hl.1 rfl (Nat.le_of_ble_eq_true rfl) ⟨Nat.le_of_ble_eq_true rfl, Nat.le_of_ble_eq_true rfl⟩ ⟨Nat.le_of_ble_eq_true rfl, Nat.le_of_ble_eq_true rfl⟩ dX11_isOpen_3) (fun r9 H locs er X => nomatch er) (fun x9 H locs q9 ce er X hz hv hcl => ?_)
    rw [← Sum.inr.inj er] at hcl
    rw [← Option.some.inj h]
    exact xout C X T0 hz hv hcl (Nat.le_of_ble_eq_true rfl) (Nat.le_of_ble_eq_true rfl)

theorem c_X11_isOpen (l : Launch) (E : GE) (hT : l.stackTraces = false) {σ : Mem} {x1 : Int32} {x2 : Int32} {r : (Int32 ⊕ Nat)} (h : X11_isOpen σ x1 x2 = some r) : CtX l E yX11_isOpen cX11_isOpen 3 .boolean 14 3 [.ref (gB E + 0), .int x1, .int x2] σ r σ := by
  refine vx_ofW (cc := cX11_isOpen) (maxL := 3) (ret := (some .boolean)) (by decide) rfl ?_
  intro p e s m args below meth c s₁ B hml T0 hv
  obtain ⟨rfl, G, X⟩ := start hv
  have C := cxof B hml
  have hl := lv_entry [.ref (gB E + 0), .int x1, .int x2] (n := 3) (Nat.le_of_ble_eq_true rfl)
  rw [lg_entry_eq]
  generalize (lg_sl [.ref (gB E + 0), .int x1, .int x2] ++ List.replicate (3 - (lg_sl [.ref (gB E + 0), .int x1, .int x2]).length) Slot.unset).toArray = ls at hl ⊢
  exact w_X11_isOpen C G T0 hT X hl h

set_option maxRecDepth 20000 in
theorem w_X11_needNumber_10 {r : (Int32 ⊕ Nat)} {σ : Mem} {ls : Array Slot} {H : Heap} {locs : List Loc} (C : Cx p s m args meth c cX11_needNumber none 3 RX11) (G : Gf E s) (T0 : ∀ x ∈ c.exceptionTable.toList, False) (hT : l.stackTraces = false) (X : Hx E σ s H locs) (hl : lv_has ls 3 []) (h : X11_needNumber_10 σ = some r) : W p l e (RX 12 1) s m args below meth c H locs 0 0 (QXV E below args s 1 r σ) (F0 m 10 ls []) := by
  rw [X11_needNumber_10] at h
  rw [← Option.some.inj h]
  exact thSWV C G X T0 hT (x := 2) (cls := "java/lang/IllegalArgumentException") (text := "the number is none that can be") (ik := 91) (is := 451) (ic := 95) rfl k_985 k_126 (by decide +kernel) (by decide +kernel) hl.1 dX11_needNumber_10 dX11_needNumber_13 dX11_needNumber_14 dX11_needNumber_17 dX11_needNumber_20 (Nat.le_of_ble_eq_true rfl) (Nat.le_of_ble_eq_true rfl) (Nat.le_of_ble_eq_true rfl) (Nat.le_of_ble_eq_true rfl)

set_option maxRecDepth 20000 in
theorem w_X11_needNumber {r : (Int32 ⊕ Nat)} {σ : Mem} {x0 : Int32} {x1 : Int32} {x2 : Int32} {ls : Array Slot} {H : Heap} {locs : List Loc} (C : Cx p s m args meth c cX11_needNumber none 3 RX11) (G : Gf E s) (T0 : ∀ x ∈ c.exceptionTable.toList, False) (hT : l.stackTraces = false) (X : Hx E σ s H locs) (hl : lv_has ls 3 [(0, .int x0), (1, .int x1), (2, .int x2)]) (h : X11_needNumber σ x0 x1 x2 = some r) : W p l e (RX 12 1) s m args below meth c H locs 0 0 (QXV E below args s 1 r σ) (F0 m 0 ls []) := by
  rw [X11_needNumber] at h
  refine lv_iload_n C.1 C.2.1 dX11_needNumber_0 rfl (lv_at hl 0 rfl) ?_
  refine lv_iload_n C.1 C.2.1 dX11_needNumber_1 rfl (lv_at hl 1 rfl) ?_
  refine lv_icmp_lt (tgt := 10) C.1 C.2.1 dX11_needNumber_2 (by decide) (fun c2 => ?_) (fun c2 => ?_)
  · replace h := ipos c2 h
    exact w_X11_needNumber_10 C G T0 hT X (lv_sub hl [] rfl) h
  · replace h := ineg c2 h
    refine lv_iload_n C.1 C.2.1 dX11_needNumber_5 rfl (lv_at hl 0 rfl) ?_
    refine lv_iload_n C.1 C.2.1 dX11_needNumber_6 rfl (lv_at hl 2 rfl) ?_
    refine lv_icmp_le (tgt := 21) C.1 C.2.1 dX11_needNumber_7 (by decide) (fun c7 => ?_) (fun c7 => ?_)
    · replace h := ipos c7 h
      refine W.widen (k := 1) (n := 6) (Nat.le_of_ble_eq_true rfl) (Nat.le_of_ble_eq_true rfl) ?_
      rw [← Option.some.inj h]
      exact vx_ret (rtxV C X dX11_needNumber_21)
    · replace h := ineg c7 h
      exact w_X11_needNumber_10 C G T0 hT X (lv_sub hl [] rfl) h

theorem c_X11_needNumber (l : Launch) (E : GE) (hT : l.stackTraces = false) {σ : Mem} {x0 : Int32} {x1 : Int32} {x2 : Int32} {r : (Int32 ⊕ Nat)} (h : X11_needNumber σ x0 x1 x2 = some r) : CtXV l E yX11_needNumber cX11_needNumber 3 12 1 [.int x0, .int x1, .int x2] σ r σ := by
  refine vx_ofW (cc := cX11_needNumber) (maxL := 3) (ret := none) (by decide) rfl ?_
  intro p e s m args below meth c s₁ B hml T0 hv
  obtain ⟨rfl, G, X⟩ := start hv
  have C := cxof B hml
  have hl := lv_entry [.int x0, .int x1, .int x2] (n := 3) (Nat.le_of_ble_eq_true rfl)
  rw [lg_entry_eq]
  generalize (lg_sl [.int x0, .int x1, .int x2] ++ List.replicate (3 - (lg_sl [.int x0, .int x1, .int x2]).length) Slot.unset).toArray = ls at hl ⊢
  exact w_X11_needNumber C G T0 hT X hl h

set_option maxRecDepth 20000 in
theorem w_X2_slotAt_22 {r : (Option Nat)} {σ : Mem} {ls : Array Slot} {H : Heap} {locs : List Loc} (C : Cx p s m args meth c cX2_slotAt (some (.object "PaneStreet$Street")) 2 RX2) (G : Gf E s) (X : Hx E σ s H locs) (hl : lv_has ls 2 []) (h : X2_slotAt_22 σ = some r) : W p l e (RM 1) s m args below meth c H locs 0 0 (QO E below args s r σ) (F0 m 22 ls []) := by
  rw [X2_slotAt_22] at h
  refine lv_null C.1 C.2.1 dX2_slotAt_22 ?_
  rw [← Option.some.inj h]
  exact rtQ C X dX2_slotAt_23

set_option maxRecDepth 20000 in
theorem w_X2_slotAt {r : (Option Nat)} {σ : Mem} {x1 : Int32} {ls : Array Slot} {H : Heap} {locs : List Loc} (C : Cx p s m args meth c cX2_slotAt (some (.object "PaneStreet$Street")) 2 RX2) (G : Gf E s) (X : Hx E σ s H locs) (hl : lv_has ls 2 [(0, .ref (gB E + 111)), (1, .int x1)]) (h : X2_slotAt σ x1 = some r) : W p l e (RM 1) s m args below meth c H locs 0 0 (QO E below args s r σ) (F0 m 0 ls []) := by
  rw [X2_slotAt] at h
  refine lv_iload_n C.1 C.2.1 dX2_slotAt_0 rfl (lv_at hl 1 rfl) ?_
  refine lv_if_lt (tgt := 22) C.1 C.2.1 dX2_slotAt_1 (by decide) (fun c1 => ?_) (fun c1 => ?_)
  · replace h := ipos c1 h
    exact w_X2_slotAt_22 C G X (lv_sub hl [] rfl) h
  · replace h := ineg c1 h
    refine lv_iload_n C.1 C.2.1 dX2_slotAt_4 rfl (lv_at hl 1 rfl) ?_
    refine lv_aload_n C.1 C.2.1 dX2_slotAt_5 rfl (lv_at hl 0 rfl) ?_
    refine gfX2 C G X (k := 111) kd_111 0 (v := .ref (gB E + 112)) rfl rfl (by decide) k_349 rfl dX2_slotAt_6 ?_
    refine alnS C G X kd_112 dX2_slotAt_9 ?_
    refine lv_icmp_ge (tgt := 22) C.1 C.2.1 dX2_slotAt_10 (by decide) (fun c10 => ?_) (fun c10 => ?_)
    · replace h := ipos c10 h
      exact w_X2_slotAt_22 C G X (lv_sub hl [] rfl) h
    · replace h := ineg c10 h
      refine lv_aload_n C.1 C.2.1 dX2_slotAt_13 rfl (lv_at hl 0 rfl) ?_
      refine gfX2 C G X (k := 111) kd_111 0 (v := .ref (gB E + 112)) rfl rfl (by decide) k_349 rfl dX2_slotAt_14 ?_
      refine lv_iload_n C.1 C.2.1 dX2_slotAt_17 rfl (lv_at hl 1 rfl) ?_
      obtain ⟨r18, e18, h⟩ := bnd h
      refine aldS C G X (k := 112) kd_112 (hSl_s e18).1 dX2_slotAt_18 ?_
      have hk_r18 : kd r18 = 2 := (hSl_s e18).2.2
      rw [(hSl_s e18).2.1]
      refine lv_goto (tgt := 23) C.1 C.2.1 dX2_slotAt_19 (by decide) ?_
      rw [← Option.some.inj h]
      exact rtQ C X dX2_slotAt_23

theorem c_X2_slotAt (l : Launch) (E : GE) {σ : Mem} {x1 : Int32} {r : (Option Nat)} (h : X2_slotAt σ x1 = some r) : CtO l E yX2_slotAt cX2_slotAt 2 (.object "PaneStreet$Street") 1 [.ref (gB E + 111), .int x1] σ r σ := by
  refine Met.ofW (cc := cX2_slotAt) (maxL := 2) (ret := (some (.object "PaneStreet$Street"))) (by decide) rfl ?_
  intro p e s m args below meth c s₁ B hml hv
  obtain ⟨rfl, G, X⟩ := start hv
  have C := cxof B hml
  have hl := lv_entry [.ref (gB E + 111), .int x1] (n := 2) (Nat.le_of_ble_eq_true rfl)
  rw [lg_entry_eq]
  generalize (lg_sl [.ref (gB E + 111), .int x1] ++ List.replicate (2 - (lg_sl [.ref (gB E + 111), .int x1]).length) Slot.unset).toArray = ls at hl ⊢
  exact w_X2_slotAt C G X hl h

set_option maxRecDepth 20000 in
theorem w_X2_remember {r : Mem} {σ : Mem} {a1 : Nat} {ls : Array Slot} {H : Heap} {locs : List Loc} (C : Cx p s m args meth c cX2_remember none 3 RX2) (G : Gf E s) (X : Hx E σ s H locs) (hk_a1 : kd a1 = 2) (hl : lv_has ls 3 [(0, .ref (gB E + 111)), (1, .ref (gB E + a1))]) (h : X2_remember a1 σ = some r) : W p l e (RM 4) s m args below meth c H locs 0 0 (QV E below args s r) (F0 m 0 ls []) := by
  rw [X2_remember] at h
  refine lv_aload_n C.1 C.2.1 dX2_remember_0 rfl (lv_at hl 0 rfl) ?_
  refine lv_aload_n C.1 C.2.1 dX2_remember_1 rfl (lv_at hl 0 rfl) ?_
  refine gfX2 C G X (k := 111) kd_111 1 (v := .int (σ 111 1)) rfl rfl (by decide) k_350 rfl dX2_remember_2 ?_
  obtain ⟨r5, e5, h⟩ := bnd h
  refine afQ X (runV C G X q_X2_slotAt k_752 kp_4 k_750 (rcX2 G X kd_111) (c_X2_slotAt l E e5) rfl hl.1 rfl (Nat.le_of_ble_eq_true rfl) ⟨Nat.le_of_ble_eq_true rfl, Nat.le_of_ble_eq_true rfl⟩ ⟨Nat.le_of_ble_eq_true rfl, Nat.le_of_ble_eq_true rfl⟩ dX2_remember_5) (fun H locs X => ?_)
  refine lq_astore_n (lv' := [(2, oV E r5), (0, .ref (gB E + 111)), (1, .ref (gB E + a1))]) C.1 C.2.1 dX2_remember_8 rfl hl (by decide) rfl (fun ls hl => ?_)
  refine lq_aload_n C.1 C.2.1 dX2_remember_9 rfl (lv_at hl 0 rfl) ?_
  cases r5 with
  | none =>
    refine lv_ifnullN (tgt := 46) C.1 C.2.1 dX2_remember_10 (by decide) ?_
    rw [← Option.some.inj h]
    exact rtV C X dX2_remember_46
  | some r10 =>
    obtain ⟨u10, z10, h⟩ := bnd h
    have hk_r10 := gk2_s z10
    refine lv_ifnull C.1 C.2.1 dX2_remember_10 ?_
    refine lv_aload_n C.1 C.2.1 dX2_remember_13 rfl (lv_at hl 0 rfl) ?_
    refine lv_aload_n C.1 C.2.1 dX2_remember_14 rfl (lv_at hl 2 rfl) ?_
    obtain ⟨σ15, e15, h⟩ := bnd h
    refine afV X (runV C G X q_X7_copyFrom k_471 k_472 k_754 (rcX7 G X hk_r10) (c_X7_copyFrom l E hk_r10 hk_a1 e15) rfl hl.1 rfl (Nat.le_of_ble_eq_true rfl) ⟨Nat.le_of_ble_eq_true rfl, Nat.le_of_ble_eq_true rfl⟩ ⟨Nat.le_of_ble_eq_true rfl, Nat.le_of_ble_eq_true rfl⟩ dX2_remember_15) (fun H locs X => ?_)
    refine lv_aload_n C.1 C.2.1 dX2_remember_18 rfl (lv_at hl 1 rfl) ?_
    refine lv_aload_n C.1 C.2.1 dX2_remember_19 rfl (lv_at hl 1 rfl) ?_
    refine gfX2 C G X (k := 111) kd_111 1 (v := .int (σ15 111 1)) rfl rfl (by decide) k_350 rfl dX2_remember_20 ?_
    refine lv_iconst (v := 1) C.1 C.2.1 dX2_remember_23 (by decide) ?_
    refine lv_iadd C.1 C.2.1 dX2_remember_24 ?_
    refine lv_bipush (v := 12) C.1 C.2.1 dX2_remember_25 (by decide) ?_
    refine lv_irem C.1 C.2.1 dX2_remember_27 (by decide) ?_
    obtain ⟨σ28, e28, h⟩ := bnd h
    refine pfX2 C G X (k := 111) kd_111 1 (x := (((σ15 111 1) + (1 : Int32)) - ((σ15 111 1) + (1 : Int32)) / (12 : Int32) * (12 : Int32))) (ty := .int) rfl rfl (Nat.le_of_ble_eq_true rfl) (by decide) k_350 rfl rfl (by decide +kernel) rfl rfl dX2_remember_28 (fun H locs X => ?_)
    replace X := pu_x e28 X
    refine lv_aload_n C.1 C.2.1 dX2_remember_31 rfl (lv_at hl 1 rfl) ?_
    refine lv_aload_n C.1 C.2.1 dX2_remember_32 rfl (lv_at hl 1 rfl) ?_
    refine gfX2 C G X (k := 111) kd_111 2 (v := .int (σ28 111 2)) rfl rfl (by decide) k_351 rfl dX2_remember_33 ?_
    refine lv_iconst (v := 1) C.1 C.2.1 dX2_remember_36 (by decide) ?_
    refine lv_iadd C.1 C.2.1 dX2_remember_37 ?_
    refine lv_bipush (v := 12) C.1 C.2.1 dX2_remember_38 (by decide) ?_
    refine mmin C hl.1 (cells := 0) k_1310 ⟨Nat.le_of_ble_eq_true rfl, Nat.le_of_ble_eq_true rfl, Nat.le_of_ble_eq_true rfl, Nat.le_of_ble_eq_true rfl⟩ dX2_remember_40 ?_
    obtain ⟨σ43, e43, h⟩ := bnd h
    refine pfX2 C G X (k := 111) kd_111 2 (x := (if (12 : Int32) < ((σ28 111 2) + (1 : Int32)) then (12 : Int32) else ((σ28 111 2) + (1 : Int32)))) (ty := .int) rfl rfl (Nat.le_of_ble_eq_true rfl) (by decide) k_351 rfl rfl (by decide +kernel) rfl rfl dX2_remember_43 (fun H locs X => ?_)
    replace X := pu_x e43 X
    rw [← Option.some.inj h]
    exact rtV C X dX2_remember_46

theorem c_X2_remember (l : Launch) (E : GE) {σ : Mem} {a1 : Nat} (hk_a1 : kd a1 = 2) {r : Mem} (h : X2_remember a1 σ = some r) : CtV l E yX2_remember cX2_remember 3 4 [.ref (gB E + 111), .ref (gB E + a1)] σ r := by
  refine Met.ofW (cc := cX2_remember) (maxL := 3) (ret := none) (by decide) rfl ?_
  intro p e s m args below meth c s₁ B hml hv
  obtain ⟨rfl, G, X⟩ := start hv
  have C := cxof B hml
  have hl := lv_entry [.ref (gB E + 111), .ref (gB E + a1)] (n := 3) (Nat.le_of_ble_eq_true rfl)
  rw [lg_entry_eq]
  generalize (lg_sl [.ref (gB E + 111), .ref (gB E + a1)] ++ List.replicate (3 - (lg_sl [.ref (gB E + 111), .ref (gB E + a1)]).length) Slot.unset).toArray = ls at hl ⊢
  exact w_X2_remember C G X hk_a1 hl h

set_option maxRecDepth 20000 in
theorem w_X11_hours_22 {r : ((Int32 ⊕ Nat) × Mem)} (C : Cx p s m args meth c cX11_hours (some .int) 4 RX11) (G : Gf E s) (T0 : ∀ x ∈ c.exceptionTable.toList, False) (hT : l.stackTraces = false) : ∀ (f : Nat) {x1 : Int32} {x2 : Int32} {x3 : Int32} {σ : Mem} {ls : Array Slot} {H : Heap} {locs : List Loc}, Hx E σ s H locs → lv_has ls 4 [(0, .ref (gB E + 0)), (1, .int x1), (2, .int x2), (3, .int x3)] → X11_hours_22 f x1 x2 x3 σ = some r → W p l e (RX 13 1) s m args below meth c H locs 1 6 (QX E below args s 1 r.1 r.2) (F0 m 22 ls []) := by
  intro f
  induction f with
  | zero =>
    intro x1 x2 x3 σ ls H locs X hl h
    rw [X11_hours_22] at h
    cases h
  | succ f ih =>
    intro x1 x2 x3 σ ls H locs X hl h
    rw [X11_hours_22] at h
    refine lv_iload_n C.1 C.2.1 dX11_hours_22 rfl (lv_at hl 3 rfl) ?_
    refine lv_iload_n C.1 C.2.1 dX11_hours_23 rfl (lv_at hl 1 rfl) ?_
    refine lv_icmp_ge (tgt := 52) C.1 C.2.1 dX11_hours_24 (by decide) (fun c24 => ?_) (fun c24 => ?_)
    · replace h := ipos c24 h
      refine lv_iload_n C.1 C.2.1 dX11_hours_52 rfl (lv_at hl 2 rfl) ?_
      rw [← Option.some.inj h]
      exact vx_ret (rtxI C X dX11_hours_53)
    · replace h := ineg c24 h
      refine lv_iload_n C.1 C.2.1 dX11_hours_27 rfl (lv_at hl 2 rfl) ?_
      refine lv_aload_n C.1 C.2.1 dX11_hours_28 rfl (lv_at hl 0 rfl) ?_
      refine gfX11 C G X (k := 0) kd_0 9 (v := .ref (gB E + 365)) rfl rfl (by decide) k_414 rfl dX11_hours_29 ?_
      refine lv_aload_n C.1 C.2.1 dX11_hours_32 rfl (lv_at hl 0 rfl) ?_
      refine gfX11 C G X (k := 0) kd_0 1 (v := .ref (gB E + 9)) rfl rfl (by decide) k_406 rfl dX11_hours_33 ?_
      refine lv_aload_n C.1 C.2.1 dX11_hours_36 rfl (lv_at hl 0 rfl) ?_
      refine gfX11 C G X (k := 0) kd_0 4 (v := .ref (gB E + 72)) rfl rfl (by decide) k_409 rfl dX11_hours_37 ?_
      refine lv_iconst (v := 1) C.1 C.2.1 dX11_hours_40 (by decide) ?_
      obtain ⟨r41, σ41, e41, h⟩ := bnd2 h
      refine afI (r0 := r41) (σ' := σ41) X (runV C G X q_X0_tick k_485 k_486 k_1311 (rcX0 G X kd_365) (c_X0_tick l E kd_9 kd_72 e41) rfl hl.1 rfl (Nat.le_of_ble_eq_true rfl) ⟨Nat.le_of_ble_eq_true rfl, Nat.le_of_ble_eq_true rfl⟩ ⟨Nat.le_of_ble_eq_true rfl, Nat.le_of_ble_eq_true rfl⟩ dX11_hours_41) (fun H locs X => ?_)
      refine lv_iadd C.1 C.2.1 dX11_hours_44 ?_
      refine lv_istore_n (lv' := [(2, .int (x2 + r41)), (0, .ref (gB E + 0)), (1, .int x1), (3, .int x3)]) C.1 C.2.1 dX11_hours_45 rfl hl (by decide) rfl (fun ls hl => ?_)
      refine lv_iinc (v := (x3 + 1)) (lv' := [(3, .int (x3 + 1)), (2, .int (x2 + r41)), (0, .ref (gB E + 0)), (1, .int x1)]) C.1 C.2.1 dX11_hours_46 hl (k := 3) rfl rfl (by decide) rfl (fun ls hl => ?_)
      refine lv_goto (tgt := 22) C.1 C.2.1 dX11_hours_49 (by decide) ?_
      exact ih X (lv_sub hl [2, 3, 1, 0] rfl) h

set_option maxRecDepth 20000 in
theorem w_X11_hours {r : ((Int32 ⊕ Nat) × Mem)} {σ : Mem} {x1 : Int32} {ls : Array Slot} {H : Heap} {locs : List Loc} (C : Cx p s m args meth c cX11_hours (some .int) 4 RX11) (G : Gf E s) (T0 : ∀ x ∈ c.exceptionTable.toList, False) (hT : l.stackTraces = false) (X : Hx E σ s H locs) (hl : lv_has ls 4 [(0, .ref (gB E + 0)), (1, .int x1)]) (h : X11_hours x1 σ = some r) : W p l e (RX 13 1) s m args below meth c H locs 0 0 (QX E below args s 1 r.1 r.2) (F0 m 0 ls []) := by
  rw [X11_hours] at h
  refine lv_iload_n C.1 C.2.1 dX11_hours_0 rfl (lv_at hl 1 rfl) ?_
  refine lv_iconst (v := 1) C.1 C.2.1 dX11_hours_1 (by decide) ?_
  refine lv_bipush (v := 60) C.1 C.2.1 dX11_hours_2 (by decide) ?_
  rcases bndx h with ⟨r4, e4, h⟩ | ⟨x4_, e4, h⟩
  · refine axV X (runXS C G X q_X11_needNumber k_1303 k_1302 (c_X11_needNumber l E hT e4) rfl hl.1 rfl (Nat.le_of_ble_eq_true rfl) ⟨Nat.le_of_ble_eq_true rfl, Nat.le_of_ble_eq_true rfl⟩ ⟨Nat.le_of_ble_eq_true rfl, Nat.le_of_ble_eq_true rfl⟩ dX11_hours_4) (fun r9 H locs er X => ?_) (fun x9 H locs q9 ce er X hz hv hcl => nomatch er)
    refine lv_aload_n C.1 C.2.1 dX11_hours_7 rfl (lv_at hl 0 rfl) ?_
    refine gfX11 C G X (k := 0) kd_0 8 (v := .ref (gB E + 111)) rfl rfl (by decide) k_413 rfl dX11_hours_8 ?_
    refine lv_aload_n C.1 C.2.1 dX11_hours_11 rfl (lv_at hl 0 rfl) ?_
    refine gfX11 C G X (k := 0) kd_0 1 (v := .ref (gB E + 9)) rfl rfl (by decide) k_406 rfl dX11_hours_12 ?_
    obtain ⟨σ15, e15, h⟩ := bnd h
    refine afV X (runV C G X q_X2_remember k_1307 k_1308 k_1306 (rcX2 G X kd_111) (c_X2_remember l E kd_9 e15) rfl hl.1 rfl (Nat.le_of_ble_eq_true rfl) ⟨Nat.le_of_ble_eq_true rfl, Nat.le_of_ble_eq_true rfl⟩ ⟨Nat.le_of_ble_eq_true rfl, Nat.le_of_ble_eq_true rfl⟩ dX11_hours_15) (fun H locs X => ?_)
    refine lv_iconst (v := 0) C.1 C.2.1 dX11_hours_18 (by decide) ?_
    refine lv_istore_n (lv' := [(2, .int (0 : Int32)), (0, .ref (gB E + 0)), (1, .int x1)]) C.1 C.2.1 dX11_hours_19 rfl hl (by decide) rfl (fun ls hl => ?_)
    refine lv_iconst (v := 0) C.1 C.2.1 dX11_hours_20 (by decide) ?_
    refine lv_istore_n (lv' := [(3, .int (0 : Int32)), (2, .int (0 : Int32)), (0, .ref (gB E + 0)), (1, .int x1)]) C.1 C.2.1 dX11_hours_21 rfl hl (by decide) rfl (fun ls hl => ?_)
    exact w_X11_hours_22 C G T0 hT FU X (lv_sub hl [2, 3, 1, 0] rfl) h
  · refine axV X (runXS C G X q_X11_needNumber k_1303 k_1302 (c_X11_needNumber l E hT e4) rfl hl.1 rfl (Nat.le_of_ble_eq_true rfl) ⟨Nat.le_of_ble_eq_true rfl, Nat.le_of_ble_eq_true rfl⟩ ⟨Nat.le_of_ble_eq_true rfl, Nat.le_of_ble_eq_true rfl⟩ dX11_hours_4) (fun r9 H locs er X => nomatch er) (fun x9 H locs q9 ce er X hz hv hcl => ?_)
    rw [← Sum.inr.inj er] at hcl
    rw [← Option.some.inj h]
    exact xout C X T0 hz hv hcl (Nat.le_of_ble_eq_true rfl) (Nat.le_of_ble_eq_true rfl)

theorem c_X11_hours (l : Launch) (E : GE) (hT : l.stackTraces = false) {σ : Mem} {x1 : Int32} {r : ((Int32 ⊕ Nat) × Mem)} (h : X11_hours x1 σ = some r) : CtX l E yX11_hours cX11_hours 4 .int 13 1 [.ref (gB E + 0), .int x1] σ r.1 r.2 := by
  refine vx_ofW (cc := cX11_hours) (maxL := 4) (ret := (some .int)) (by decide) rfl ?_
  intro p e s m args below meth c s₁ B hml T0 hv
  obtain ⟨rfl, G, X⟩ := start hv
  have C := cxof B hml
  have hl := lv_entry [.ref (gB E + 0), .int x1] (n := 4) (Nat.le_of_ble_eq_true rfl)
  rw [lg_entry_eq]
  generalize (lg_sl [.ref (gB E + 0), .int x1] ++ List.replicate (4 - (lg_sl [.ref (gB E + 0), .int x1]).length) Slot.unset).toArray = ls at hl ⊢
  exact w_X11_hours C G T0 hT X hl h

set_option maxRecDepth 20000 in
theorem w_X11_heads_15 {r : ((Int32 ⊕ Nat) × Mem)} {σ : Mem} {x1 : Int32} {x2 : Int32} {ls : Array Slot} {H : Heap} {locs : List Loc} (C : Cx p s m args meth c cX11_heads (some .int) 4 RX11) (G : Gf E s) (T0 : ∀ x ∈ c.exceptionTable.toList, False) (hT : l.stackTraces = false) (X : Hx E σ s H locs) (hl : lv_has ls 4 [(0, .ref (gB E + 0)), (1, .int x1), (2, .int x2)]) (h : X11_heads_15 x1 x2 σ = some r) : W p l e (RX 13 2) s m args below meth c H locs 2 12 (QX E below args s 2 r.1 r.2) (F0 m 15 ls []) := by
  rw [X11_heads_15] at h
  refine lv_aload_n C.1 C.2.1 dX11_heads_15 rfl (lv_at hl 0 rfl) ?_
  refine gfX11 C G X (k := 0) kd_0 8 (v := .ref (gB E + 111)) rfl rfl (by decide) k_413 rfl dX11_heads_16 ?_
  refine lv_aload_n C.1 C.2.1 dX11_heads_19 rfl (lv_at hl 0 rfl) ?_
  refine gfX11 C G X (k := 0) kd_0 1 (v := .ref (gB E + 9)) rfl rfl (by decide) k_406 rfl dX11_heads_20 ?_
  obtain ⟨σ23, e23, h⟩ := bnd h
  refine afV X (runV C G X q_X2_remember k_1307 k_1308 k_1306 (rcX2 G X kd_111) (c_X2_remember l E kd_9 e23) rfl hl.1 rfl (Nat.le_of_ble_eq_true rfl) ⟨Nat.le_of_ble_eq_true rfl, Nat.le_of_ble_eq_true rfl⟩ ⟨Nat.le_of_ble_eq_true rfl, Nat.le_of_ble_eq_true rfl⟩ dX11_heads_23) (fun H locs X => ?_)
  refine lv_aload_n C.1 C.2.1 dX11_heads_26 rfl (lv_at hl 0 rfl) ?_
  refine gfX11 C G X (k := 0) kd_0 1 (v := .ref (gB E + 9)) rfl rfl (by decide) k_406 rfl dX11_heads_27 ?_
  refine gfX7 C G X (k := 9) kd_9 15 (v := .ref (gB E + 22)) rfl rfl (by decide) k_257 rfl dX11_heads_30 ?_
  refine lv_iload_n C.1 C.2.1 dX11_heads_33 rfl (lv_at hl 1 rfl) ?_
  obtain ⟨r34, e34, h⟩ := bnd h
  refine afI X (runV C G X q_X6_get k_498 k_499 k_1182 (rcX6 G X kd_22) (c_X6_get l E kd_22 e34) rfl hl.1 rfl (Nat.le_of_ble_eq_true rfl) ⟨Nat.le_of_ble_eq_true rfl, Nat.le_of_ble_eq_true rfl⟩ ⟨Nat.le_of_ble_eq_true rfl, Nat.le_of_ble_eq_true rfl⟩ dX11_heads_34) (fun H locs X => ?_)
  refine lv_istore_n (lv' := [(3, .int r34), (0, .ref (gB E + 0)), (1, .int x1), (2, .int x2)]) C.1 C.2.1 dX11_heads_37 rfl hl (by decide) rfl (fun ls hl => ?_)
  refine lv_aload_n C.1 C.2.1 dX11_heads_38 rfl (lv_at hl 1 rfl) ?_
  refine gfX11 C G X (k := 0) kd_0 1 (v := .ref (gB E + 9)) rfl rfl (by decide) k_406 rfl dX11_heads_39 ?_
  refine gfX7 C G X (k := 9) kd_9 15 (v := .ref (gB E + 22)) rfl rfl (by decide) k_257 rfl dX11_heads_42 ?_
  refine lv_iload_n C.1 C.2.1 dX11_heads_45 rfl (lv_at hl 2 rfl) ?_
  refine lv_iload_n C.1 C.2.1 dX11_heads_46 rfl (lv_at hl 3 rfl) ?_
  obtain ⟨σ47, e47, h⟩ := bnd h
  refine afV X (runV C G X q_X6_set k_451 k_452 k_1319 (rcX6 G X kd_22) (c_X6_set l E kd_22 e47) rfl hl.1 rfl (Nat.le_of_ble_eq_true rfl) ⟨Nat.le_of_ble_eq_true rfl, Nat.le_of_ble_eq_true rfl⟩ ⟨Nat.le_of_ble_eq_true rfl, Nat.le_of_ble_eq_true rfl⟩ dX11_heads_47) (fun H locs X => ?_)
  refine lv_iload_n C.1 C.2.1 dX11_heads_50 rfl (lv_at hl 0 rfl) ?_
  rw [← Option.some.inj h]
  exact vx_ret (rtxI C X dX11_heads_51)

set_option maxRecDepth 20000 in
theorem w_X11_heads {r : ((Int32 ⊕ Nat) × Mem)} {σ : Mem} {x1 : Int32} {x2 : Int32} {ls : Array Slot} {H : Heap} {locs : List Loc} (C : Cx p s m args meth c cX11_heads (some .int) 4 RX11) (G : Gf E s) (T0 : ∀ x ∈ c.exceptionTable.toList, False) (hT : l.stackTraces = false) (X : Hx E σ s H locs) (hl : lv_has ls 4 [(0, .ref (gB E + 0)), (1, .int x1), (2, .int x2)]) (h : X11_heads x1 x2 σ = some r) : W p l e (RX 13 2) s m args below meth c H locs 0 0 (QX E below args s 2 r.1 r.2) (F0 m 0 ls []) := by
  rw [X11_heads] at h
  refine lv_aload_n C.1 C.2.1 dX11_heads_0 rfl (lv_at hl 0 rfl) ?_
  refine lv_iload_n C.1 C.2.1 dX11_heads_1 rfl (lv_at hl 1 rfl) ?_
  rcases bndx h with ⟨r2, e2, h⟩ | ⟨x2_, e2, h⟩
  · refine axV X (runXV C G X q_X11_needWalker k_1216 kp_12 k_1214 (rcX11 G X kd_0) (c_X11_needWalker l E hT e2) rfl hl.1 rfl (Nat.le_of_ble_eq_true rfl) ⟨Nat.le_of_ble_eq_true rfl, Nat.le_of_ble_eq_true rfl⟩ ⟨Nat.le_of_ble_eq_true rfl, Nat.le_of_ble_eq_true rfl⟩ dX11_heads_2) (fun r9 H locs er X => ?_) (fun x9 H locs q9 ce er X hz hv hcl => nomatch er)
    refine lv_iload_n C.1 C.2.1 dX11_heads_5 rfl (lv_at hl 2 rfl) ?_
    refine lv_iconst (v := -1) C.1 C.2.1 dX11_heads_6 (by decide) ?_
    refine lv_icmp_eq (tgt := 15) C.1 C.2.1 dX11_heads_7 (by decide) (fun c7 => ?_) (fun c7 => ?_)
    · replace h := ipos c7 h
      refine W.widen (k := 2) (n := 12) (Nat.le_of_ble_eq_true rfl) (Nat.le_of_ble_eq_true rfl) ?_
      exact w_X11_heads_15 C G T0 hT X (lv_sub hl [0, 1, 2] rfl) h
    · replace h := ineg c7 h
      refine lv_aload_n C.1 C.2.1 dX11_heads_10 rfl (lv_at hl 0 rfl) ?_
      refine lv_iload_n C.1 C.2.1 dX11_heads_11 rfl (lv_at hl 2 rfl) ?_
      rcases bndx h with ⟨r12, e12, h⟩ | ⟨x12_, e12, h⟩
      · refine axV X (runXV C G X q_X11_needPane k_1164 kp_11 k_1162 (rcX11 G X kd_0) (c_X11_needPane l E hT e12) rfl hl.1 rfl (Nat.le_of_ble_eq_true rfl) ⟨Nat.le_of_ble_eq_true rfl, Nat.le_of_ble_eq_true rfl⟩ ⟨Nat.le_of_ble_eq_true rfl, Nat.le_of_ble_eq_true rfl⟩ dX11_heads_12) (fun r9 H locs er X => ?_) (fun x9 H locs q9 ce er X hz hv hcl => nomatch er)
        exact w_X11_heads_15 C G T0 hT X (lv_sub hl [0, 1, 2] rfl) h
      · refine axV X (runXV C G X q_X11_needPane k_1164 kp_11 k_1162 (rcX11 G X kd_0) (c_X11_needPane l E hT e12) rfl hl.1 rfl (Nat.le_of_ble_eq_true rfl) ⟨Nat.le_of_ble_eq_true rfl, Nat.le_of_ble_eq_true rfl⟩ ⟨Nat.le_of_ble_eq_true rfl, Nat.le_of_ble_eq_true rfl⟩ dX11_heads_12) (fun r9 H locs er X => nomatch er) (fun x9 H locs q9 ce er X hz hv hcl => ?_)
        rw [← Sum.inr.inj er] at hcl
        rw [← Option.some.inj h]
        exact xout C X T0 hz hv hcl (Nat.le_of_ble_eq_true rfl) (Nat.le_of_ble_eq_true rfl)
  · refine axV X (runXV C G X q_X11_needWalker k_1216 kp_12 k_1214 (rcX11 G X kd_0) (c_X11_needWalker l E hT e2) rfl hl.1 rfl (Nat.le_of_ble_eq_true rfl) ⟨Nat.le_of_ble_eq_true rfl, Nat.le_of_ble_eq_true rfl⟩ ⟨Nat.le_of_ble_eq_true rfl, Nat.le_of_ble_eq_true rfl⟩ dX11_heads_2) (fun r9 H locs er X => nomatch er) (fun x9 H locs q9 ce er X hz hv hcl => ?_)
    rw [← Sum.inr.inj er] at hcl
    rw [← Option.some.inj h]
    exact xout C X T0 hz hv hcl (Nat.le_of_ble_eq_true rfl) (Nat.le_of_ble_eq_true rfl)

theorem c_X11_heads (l : Launch) (E : GE) (hT : l.stackTraces = false) {σ : Mem} {x1 : Int32} {x2 : Int32} {r : ((Int32 ⊕ Nat) × Mem)} (h : X11_heads x1 x2 σ = some r) : CtX l E yX11_heads cX11_heads 4 .int 13 2 [.ref (gB E + 0), .int x1, .int x2] σ r.1 r.2 := by
  refine vx_ofW (cc := cX11_heads) (maxL := 4) (ret := (some .int)) (by decide) rfl ?_
  intro p e s m args below meth c s₁ B hml T0 hv
  obtain ⟨rfl, G, X⟩ := start hv
  have C := cxof B hml
  have hl := lv_entry [.ref (gB E + 0), .int x1, .int x2] (n := 4) (Nat.le_of_ble_eq_true rfl)
  rw [lg_entry_eq]
  generalize (lg_sl [.ref (gB E + 0), .int x1, .int x2] ++ List.replicate (4 - (lg_sl [.ref (gB E + 0), .int x1, .int x2]).length) Slot.unset).toArray = ls at hl ⊢
  exact w_X11_heads C G T0 hT X hl h

set_option maxRecDepth 20000 in
theorem w_X7_mayStrike {r : Int32} {σ : Mem} {a0 : Nat} {x1 : Int32} {x2 : Int32} {ls : Array Slot} {H : Heap} {locs : List Loc} (C : Cx p s m args meth c cX7_mayStrike (some .boolean) 3 RX7) (G : Gf E s) (X : Hx E σ s H locs) (hk_a0 : kd a0 = 2) (hl : lv_has ls 3 [(0, .ref (gB E + a0)), (1, .int x1), (2, .int x2)]) (h : X7_mayStrike σ a0 x1 x2 = some r) : W p l e (RM 3) s m args below meth c H locs 0 0 (QI E below args s r σ) (F0 m 0 ls []) := by
  rw [X7_mayStrike] at h
  refine lv_aload_n C.1 C.2.1 dX7_mayStrike_0 rfl (lv_at hl 0 rfl) ?_
  refine gfX7 C G X (k := a0) hk_a0 14 (v := .ref (gB E + (a0 + 11))) rfl rfl (by decide) k_251 rfl dX7_mayStrike_1 ?_
  refine lv_iload_n C.1 C.2.1 dX7_mayStrike_4 rfl (lv_at hl 1 rfl) ?_
  obtain ⟨r5, e5, h⟩ := bnd h
  refine afI X (runV C G X q_X6_get k_498 k_499 k_515 (rcX6 G X (kf_2_11 hk_a0)) (c_X6_get l E (kf_2_11 hk_a0) e5) rfl hl.1 rfl (Nat.le_of_ble_eq_true rfl) ⟨Nat.le_of_ble_eq_true rfl, Nat.le_of_ble_eq_true rfl⟩ ⟨Nat.le_of_ble_eq_true rfl, Nat.le_of_ble_eq_true rfl⟩ dX7_mayStrike_5) (fun H locs X => ?_)
  refine lv_if_le (tgt := 46) C.1 C.2.1 dX7_mayStrike_8 (by decide) (fun c8 => ?_) (fun c8 => ?_)
  · replace h := ipos c8 h
    refine lv_iconst (v := 0) C.1 C.2.1 dX7_mayStrike_46 (by decide) ?_
    obtain ⟨u47, z47, h⟩ := bnd h
    rw [← Option.some.inj h]
    exact rtZ C X (gb_s z47) dX7_mayStrike_47
  · replace h := ineg c8 h
    refine lv_aload_n C.1 C.2.1 dX7_mayStrike_11 rfl (lv_at hl 0 rfl) ?_
    refine lv_iload_n C.1 C.2.1 dX7_mayStrike_12 rfl (lv_at hl 2 rfl) ?_
    obtain ⟨r13, e13, h⟩ := bnd h
    refine afI X (runV C G X q_X7_isBurning k_538 k_539 k_600 (rcX7 G X hk_a0) (c_X7_isBurning l E hk_a0 e13) rfl hl.1 rfl (Nat.le_of_ble_eq_true rfl) ⟨Nat.le_of_ble_eq_true rfl, Nat.le_of_ble_eq_true rfl⟩ ⟨Nat.le_of_ble_eq_true rfl, Nat.le_of_ble_eq_true rfl⟩ dX7_mayStrike_13) (fun H locs X => ?_)
    refine lv_if_ne (tgt := 46) C.1 C.2.1 dX7_mayStrike_16 (by decide) (fun c16 => ?_) (fun c16 => ?_)
    · replace h := ineg c16 h
      refine lv_iconst (v := 0) C.1 C.2.1 dX7_mayStrike_46 (by decide) ?_
      obtain ⟨u47, z47, h⟩ := bnd h
      rw [← Option.some.inj h]
      exact rtZ C X (gb_s z47) dX7_mayStrike_47
    · replace h := ipos c16 h
      refine lv_aload_n C.1 C.2.1 dX7_mayStrike_19 rfl (lv_at hl 0 rfl) ?_
      refine gfX7 C G X (k := a0) hk_a0 9 (v := .ref (gB E + (a0 + 1))) rfl rfl (by decide) k_232 rfl dX7_mayStrike_20 ?_
      refine lv_iload_n C.1 C.2.1 dX7_mayStrike_23 rfl (lv_at hl 2 rfl) ?_
      obtain ⟨r24, e24, h⟩ := bnd h
      refine afI X (runV C G X q_X6_get k_498 k_499 k_515 (rcX6 G X (kf_2_1 hk_a0)) (c_X6_get l E (kf_2_1 hk_a0) e24) rfl hl.1 rfl (Nat.le_of_ble_eq_true rfl) ⟨Nat.le_of_ble_eq_true rfl, Nat.le_of_ble_eq_true rfl⟩ ⟨Nat.le_of_ble_eq_true rfl, Nat.le_of_ble_eq_true rfl⟩ dX7_mayStrike_24) (fun H locs X => ?_)
      refine lv_if_le (tgt := 46) C.1 C.2.1 dX7_mayStrike_27 (by decide) (fun c27 => ?_) (fun c27 => ?_)
      · replace h := ipos c27 h
        refine lv_iconst (v := 0) C.1 C.2.1 dX7_mayStrike_46 (by decide) ?_
        obtain ⟨u47, z47, h⟩ := bnd h
        rw [← Option.some.inj h]
        exact rtZ C X (gb_s z47) dX7_mayStrike_47
      · replace h := ineg c27 h
        refine lv_aload_n C.1 C.2.1 dX7_mayStrike_30 rfl (lv_at hl 0 rfl) ?_
        refine gfX7 C G X (k := a0) hk_a0 10 (v := .ref (gB E + (a0 + 3))) rfl rfl (by decide) k_235 rfl dX7_mayStrike_31 ?_
        refine lv_iload_n C.1 C.2.1 dX7_mayStrike_34 rfl (lv_at hl 2 rfl) ?_
        obtain ⟨r35, e35, h⟩ := bnd h
        refine afI X (runV C G X q_X6_get k_498 k_499 k_515 (rcX6 G X (kf_2_3 hk_a0)) (c_X6_get l E (kf_2_3 hk_a0) e35) rfl hl.1 rfl (Nat.le_of_ble_eq_true rfl) ⟨Nat.le_of_ble_eq_true rfl, Nat.le_of_ble_eq_true rfl⟩ ⟨Nat.le_of_ble_eq_true rfl, Nat.le_of_ble_eq_true rfl⟩ dX7_mayStrike_35) (fun H locs X => ?_)
        refine lv_iload_n C.1 C.2.1 dX7_mayStrike_38 rfl (lv_at hl 1 rfl) ?_
        refine lv_icmp_eq (tgt := 46) C.1 C.2.1 dX7_mayStrike_39 (by decide) (fun c39 => ?_) (fun c39 => ?_)
        · replace h := ipos c39 h
          refine lv_iconst (v := 0) C.1 C.2.1 dX7_mayStrike_46 (by decide) ?_
          obtain ⟨u47, z47, h⟩ := bnd h
          rw [← Option.some.inj h]
          exact rtZ C X (gb_s z47) dX7_mayStrike_47
        · replace h := ineg c39 h
          refine lv_iconst (v := 1) C.1 C.2.1 dX7_mayStrike_42 (by decide) ?_
          refine lv_goto (tgt := 47) C.1 C.2.1 dX7_mayStrike_43 (by decide) ?_
          obtain ⟨u47, z47, h⟩ := bnd h
          rw [← Option.some.inj h]
          exact rtZ C X (gb_s z47) dX7_mayStrike_47

theorem c_X7_mayStrike (l : Launch) (E : GE) {σ : Mem} {a0 : Nat} {x1 : Int32} {x2 : Int32} (hk_a0 : kd a0 = 2) {r : Int32} (h : X7_mayStrike σ a0 x1 x2 = some r) : CtI l E yX7_mayStrike cX7_mayStrike 3 .boolean 3 [.ref (gB E + a0), .int x1, .int x2] σ r σ := by
  refine Met.ofW (cc := cX7_mayStrike) (maxL := 3) (ret := (some .boolean)) (by decide) rfl ?_
  intro p e s m args below meth c s₁ B hml hv
  obtain ⟨rfl, G, X⟩ := start hv
  have C := cxof B hml
  have hl := lv_entry [.ref (gB E + a0), .int x1, .int x2] (n := 3) (Nat.le_of_ble_eq_true rfl)
  rw [lg_entry_eq]
  generalize (lg_sl [.ref (gB E + a0), .int x1, .int x2] ++ List.replicate (3 - (lg_sl [.ref (gB E + a0), .int x1, .int x2]).length) Slot.unset).toArray = ls at hl ⊢
  exact w_X7_mayStrike C G X hk_a0 hl h

set_option maxRecDepth 20000 in
theorem w_X11_strike {r : ((Int32 ⊕ Nat) × Mem)} {σ : Mem} {x1 : Int32} {ls : Array Slot} {H : Heap} {locs : List Loc} (C : Cx p s m args meth c cX11_strike (some .int) 3 RX11) (G : Gf E s) (T0 : ∀ x ∈ c.exceptionTable.toList, False) (hT : l.stackTraces = false) (X : Hx E σ s H locs) (hl : lv_has ls 3 [(0, .ref (gB E + 0)), (1, .int x1)]) (h : X11_strike x1 σ = some r) : W p l e (RX 13 2) s m args below meth c H locs 0 0 (QX E below args s 2 r.1 r.2) (F0 m 0 ls []) := by
  rw [X11_strike] at h
  refine lv_aload_n C.1 C.2.1 dX11_strike_0 rfl (lv_at hl 0 rfl) ?_
  refine lv_iload_n C.1 C.2.1 dX11_strike_1 rfl (lv_at hl 1 rfl) ?_
  rcases bndx h with ⟨r2, e2, h⟩ | ⟨x2_, e2, h⟩
  · refine axV X (runXV C G X q_X11_needWalker k_1216 kp_12 k_1214 (rcX11 G X kd_0) (c_X11_needWalker l E hT e2) rfl hl.1 rfl (Nat.le_of_ble_eq_true rfl) ⟨Nat.le_of_ble_eq_true rfl, Nat.le_of_ble_eq_true rfl⟩ ⟨Nat.le_of_ble_eq_true rfl, Nat.le_of_ble_eq_true rfl⟩ dX11_strike_2) (fun r9 H locs er X => ?_) (fun x9 H locs q9 ce er X hz hv hcl => nomatch er)
    refine lv_aload_n C.1 C.2.1 dX11_strike_5 rfl (lv_at hl 0 rfl) ?_
    refine gfX11 C G X (k := 0) kd_0 1 (v := .ref (gB E + 9)) rfl rfl (by decide) k_406 rfl dX11_strike_6 ?_
    refine gfX7 C G X (k := 9) kd_9 13 (v := .ref (gB E + 18)) rfl rfl (by decide) k_250 rfl dX11_strike_9 ?_
    refine lv_iload_n C.1 C.2.1 dX11_strike_12 rfl (lv_at hl 1 rfl) ?_
    obtain ⟨r13, e13, h⟩ := bnd h
    refine afI X (runV C G X q_X6_get k_498 k_499 k_1182 (rcX6 G X kd_18) (c_X6_get l E kd_18 e13) rfl hl.1 rfl (Nat.le_of_ble_eq_true rfl) ⟨Nat.le_of_ble_eq_true rfl, Nat.le_of_ble_eq_true rfl⟩ ⟨Nat.le_of_ble_eq_true rfl, Nat.le_of_ble_eq_true rfl⟩ dX11_strike_13) (fun H locs X => ?_)
    refine lv_istore_n (lv' := [(2, .int r13), (0, .ref (gB E + 0)), (1, .int x1)]) C.1 C.2.1 dX11_strike_16 rfl hl (by decide) rfl (fun ls hl => ?_)
    refine lv_aload_n C.1 C.2.1 dX11_strike_17 rfl (lv_at hl 1 rfl) ?_
    refine gfX11 C G X (k := 0) kd_0 1 (v := .ref (gB E + 9)) rfl rfl (by decide) k_406 rfl dX11_strike_18 ?_
    refine lv_iload_n C.1 C.2.1 dX11_strike_21 rfl (lv_at hl 2 rfl) ?_
    refine lv_iload_n C.1 C.2.1 dX11_strike_22 rfl (lv_at hl 0 rfl) ?_
    obtain ⟨r23, e23, h⟩ := bnd h
    refine afI X (runV C G X q_X7_mayStrike k_1329 k_1330 k_1328 (rcX7 G X kd_9) (c_X7_mayStrike l E kd_9 e23) rfl hl.1 rfl (Nat.le_of_ble_eq_true rfl) ⟨Nat.le_of_ble_eq_true rfl, Nat.le_of_ble_eq_true rfl⟩ ⟨Nat.le_of_ble_eq_true rfl, Nat.le_of_ble_eq_true rfl⟩ dX11_strike_23) (fun H locs X => ?_)
    refine lv_if_ne (tgt := 39) C.1 C.2.1 dX11_strike_26 (by decide) (fun c26 => ?_) (fun c26 => ?_)
    · replace h := ineg c26 h
      refine lv_aload_n C.1 C.2.1 dX11_strike_39 rfl (lv_at hl 1 rfl) ?_
      refine gfX11 C G X (k := 0) kd_0 8 (v := .ref (gB E + 111)) rfl rfl (by decide) k_413 rfl dX11_strike_40 ?_
      refine lv_aload_n C.1 C.2.1 dX11_strike_43 rfl (lv_at hl 1 rfl) ?_
      refine gfX11 C G X (k := 0) kd_0 1 (v := .ref (gB E + 9)) rfl rfl (by decide) k_406 rfl dX11_strike_44 ?_
      obtain ⟨σ47, e47, h⟩ := bnd h
      refine afV X (runV C G X q_X2_remember k_1307 k_1308 k_1306 (rcX2 G X kd_111) (c_X2_remember l E kd_9 e47) rfl hl.1 rfl (Nat.le_of_ble_eq_true rfl) ⟨Nat.le_of_ble_eq_true rfl, Nat.le_of_ble_eq_true rfl⟩ ⟨Nat.le_of_ble_eq_true rfl, Nat.le_of_ble_eq_true rfl⟩ dX11_strike_47) (fun H locs X => ?_)
      refine lv_aload_n C.1 C.2.1 dX11_strike_50 rfl (lv_at hl 1 rfl) ?_
      refine gfX11 C G X (k := 0) kd_0 1 (v := .ref (gB E + 9)) rfl rfl (by decide) k_406 rfl dX11_strike_51 ?_
      refine lv_iload_n C.1 C.2.1 dX11_strike_54 rfl (lv_at hl 2 rfl) ?_
      refine lv_iload_n C.1 C.2.1 dX11_strike_55 rfl (lv_at hl 0 rfl) ?_
      refine lv_iconst (v := 1) C.1 C.2.1 dX11_strike_56 (by decide) ?_
      obtain ⟨σ57, e57, h⟩ := bnd h
      refine afV X (runV C G X q_X7_light k_579 k_580 k_1348 (rcX7 G X kd_9) (c_X7_light l E kd_9 e57) rfl hl.1 rfl (Nat.le_of_ble_eq_true rfl) ⟨Nat.le_of_ble_eq_true rfl, Nat.le_of_ble_eq_true rfl⟩ ⟨Nat.le_of_ble_eq_true rfl, Nat.le_of_ble_eq_true rfl⟩ dX11_strike_57) (fun H locs X => ?_)
      refine lv_aload_n C.1 C.2.1 dX11_strike_60 rfl (lv_at hl 1 rfl) ?_
      refine gfX11 C G X (k := 0) kd_0 1 (v := .ref (gB E + 9)) rfl rfl (by decide) k_406 rfl dX11_strike_61 ?_
      refine gfX7 C G X (k := 9) kd_9 14 (v := .ref (gB E + 20)) rfl rfl (by decide) k_254 rfl dX11_strike_64 ?_
      refine lv_iload_n C.1 C.2.1 dX11_strike_67 rfl (lv_at hl 2 rfl) ?_
      obtain ⟨r68, e68, h⟩ := bnd h
      refine afI X (runV C G X q_X6_get k_498 k_499 k_1182 (rcX6 G X kd_20) (c_X6_get l E kd_20 e68) rfl hl.1 rfl (Nat.le_of_ble_eq_true rfl) ⟨Nat.le_of_ble_eq_true rfl, Nat.le_of_ble_eq_true rfl⟩ ⟨Nat.le_of_ble_eq_true rfl, Nat.le_of_ble_eq_true rfl⟩ dX11_strike_68) (fun H locs X => ?_)
      refine W.widen (k := 2) (n := 12) (Nat.le_of_ble_eq_true rfl) (Nat.le_of_ble_eq_true rfl) ?_
      rw [← Option.some.inj h]
      exact vx_ret (rtxI C X dX11_strike_71)
    · replace h := ipos c26 h
      rw [← Option.some.inj h]
      exact thS C G X T0 hT (x := 3) (cls := "java/lang/IllegalStateException") (text := "he can not light the lamp where he is") (ik := 239) (is := 241) (ic := 243) rfl k_1332 k_131 (by decide +kernel) (by decide +kernel) hl.1 dX11_strike_29 dX11_strike_32 dX11_strike_33 dX11_strike_35 dX11_strike_38 (Nat.le_of_ble_eq_true rfl) (Nat.le_of_ble_eq_true rfl) (Nat.le_of_ble_eq_true rfl) (Nat.le_of_ble_eq_true rfl)
  · refine axV X (runXV C G X q_X11_needWalker k_1216 kp_12 k_1214 (rcX11 G X kd_0) (c_X11_needWalker l E hT e2) rfl hl.1 rfl (Nat.le_of_ble_eq_true rfl) ⟨Nat.le_of_ble_eq_true rfl, Nat.le_of_ble_eq_true rfl⟩ ⟨Nat.le_of_ble_eq_true rfl, Nat.le_of_ble_eq_true rfl⟩ dX11_strike_2) (fun r9 H locs er X => nomatch er) (fun x9 H locs q9 ce er X hz hv hcl => ?_)
    rw [← Sum.inr.inj er] at hcl
    rw [← Option.some.inj h]
    exact xout C X T0 hz hv hcl (Nat.le_of_ble_eq_true rfl) (Nat.le_of_ble_eq_true rfl)

theorem c_X11_strike (l : Launch) (E : GE) (hT : l.stackTraces = false) {σ : Mem} {x1 : Int32} {r : ((Int32 ⊕ Nat) × Mem)} (h : X11_strike x1 σ = some r) : CtX l E yX11_strike cX11_strike 3 .int 13 2 [.ref (gB E + 0), .int x1] σ r.1 r.2 := by
  refine vx_ofW (cc := cX11_strike) (maxL := 3) (ret := (some .int)) (by decide) rfl ?_
  intro p e s m args below meth c s₁ B hml T0 hv
  obtain ⟨rfl, G, X⟩ := start hv
  have C := cxof B hml
  have hl := lv_entry [.ref (gB E + 0), .int x1] (n := 3) (Nat.le_of_ble_eq_true rfl)
  rw [lg_entry_eq]
  generalize (lg_sl [.ref (gB E + 0), .int x1] ++ List.replicate (3 - (lg_sl [.ref (gB E + 0), .int x1]).length) Slot.unset).toArray = ls at hl ⊢
  exact w_X11_strike C G T0 hT X hl h

set_option maxRecDepth 20000 in
theorem w_X11_snuff_31 {r : ((Int32 ⊕ Nat) × Mem)} {σ : Mem} {ls : Array Slot} {H : Heap} {locs : List Loc} (C : Cx p s m args meth c cX11_snuff (some .int) 2 RX11) (G : Gf E s) (T0 : ∀ x ∈ c.exceptionTable.toList, False) (hT : l.stackTraces = false) (X : Hx E σ s H locs) (hl : lv_has ls 2 []) (h : X11_snuff_31 σ = some r) : W p l e (RX 13 2) s m args below meth c H locs 1 6 (QX E below args s 2 r.1 r.2) (F0 m 31 ls []) := by
  rw [X11_snuff_31] at h
  rw [← Option.some.inj h]
  exact thS C G X T0 hT (x := 3) (cls := "java/lang/IllegalStateException") (text := "it is not burning, or nobody owns it") (ik := 239) (is := 247) (ic := 243) rfl k_1332 k_131 (by decide +kernel) (by decide +kernel) hl.1 dX11_snuff_31 dX11_snuff_34 dX11_snuff_35 dX11_snuff_37 dX11_snuff_40 (Nat.le_of_ble_eq_true rfl) (Nat.le_of_ble_eq_true rfl) (Nat.le_of_ble_eq_true rfl) (Nat.le_of_ble_eq_true rfl)

set_option maxRecDepth 20000 in
theorem w_X11_snuff {r : ((Int32 ⊕ Nat) × Mem)} {σ : Mem} {x1 : Int32} {ls : Array Slot} {H : Heap} {locs : List Loc} (C : Cx p s m args meth c cX11_snuff (some .int) 2 RX11) (G : Gf E s) (T0 : ∀ x ∈ c.exceptionTable.toList, False) (hT : l.stackTraces = false) (X : Hx E σ s H locs) (hl : lv_has ls 2 [(0, .ref (gB E + 0)), (1, .int x1)]) (h : X11_snuff x1 σ = some r) : W p l e (RX 13 2) s m args below meth c H locs 0 0 (QX E below args s 2 r.1 r.2) (F0 m 0 ls []) := by
  rw [X11_snuff] at h
  refine lv_aload_n C.1 C.2.1 dX11_snuff_0 rfl (lv_at hl 0 rfl) ?_
  refine lv_iload_n C.1 C.2.1 dX11_snuff_1 rfl (lv_at hl 1 rfl) ?_
  rcases bndx h with ⟨r2, e2, h⟩ | ⟨x2_, e2, h⟩
  · refine axV X (runXV C G X q_X11_needPane k_1164 kp_11 k_1162 (rcX11 G X kd_0) (c_X11_needPane l E hT e2) rfl hl.1 rfl (Nat.le_of_ble_eq_true rfl) ⟨Nat.le_of_ble_eq_true rfl, Nat.le_of_ble_eq_true rfl⟩ ⟨Nat.le_of_ble_eq_true rfl, Nat.le_of_ble_eq_true rfl⟩ dX11_snuff_2) (fun r9 H locs er X => ?_) (fun x9 H locs q9 ce er X hz hv hcl => nomatch er)
    refine lv_aload_n C.1 C.2.1 dX11_snuff_5 rfl (lv_at hl 0 rfl) ?_
    refine gfX11 C G X (k := 0) kd_0 1 (v := .ref (gB E + 9)) rfl rfl (by decide) k_406 rfl dX11_snuff_6 ?_
    refine lv_iload_n C.1 C.2.1 dX11_snuff_9 rfl (lv_at hl 1 rfl) ?_
    obtain ⟨r10, e10, h⟩ := bnd h
    refine afI X (runV C G X q_X7_isBurning k_538 k_539 k_1183 (rcX7 G X kd_9) (c_X7_isBurning l E kd_9 e10) rfl hl.1 rfl (Nat.le_of_ble_eq_true rfl) ⟨Nat.le_of_ble_eq_true rfl, Nat.le_of_ble_eq_true rfl⟩ ⟨Nat.le_of_ble_eq_true rfl, Nat.le_of_ble_eq_true rfl⟩ dX11_snuff_10) (fun H locs X => ?_)
    refine lv_if_eq (tgt := 31) C.1 C.2.1 dX11_snuff_13 (by decide) (fun c13 => ?_) (fun c13 => ?_)
    · replace h := ipos c13 h
      exact w_X11_snuff_31 C G T0 hT X (lv_sub hl [] rfl) h
    · replace h := ineg c13 h
      refine lv_aload_n C.1 C.2.1 dX11_snuff_16 rfl (lv_at hl 0 rfl) ?_
      refine gfX11 C G X (k := 0) kd_0 1 (v := .ref (gB E + 9)) rfl rfl (by decide) k_406 rfl dX11_snuff_17 ?_
      refine gfX7 C G X (k := 9) kd_9 10 (v := .ref (gB E + 12)) rfl rfl (by decide) k_238 rfl dX11_snuff_20 ?_
      refine lv_iload_n C.1 C.2.1 dX11_snuff_23 rfl (lv_at hl 1 rfl) ?_
      obtain ⟨r24, e24, h⟩ := bnd h
      refine afI X (runV C G X q_X6_get k_498 k_499 k_1182 (rcX6 G X kd_12) (c_X6_get l E kd_12 e24) rfl hl.1 rfl (Nat.le_of_ble_eq_true rfl) ⟨Nat.le_of_ble_eq_true rfl, Nat.le_of_ble_eq_true rfl⟩ ⟨Nat.le_of_ble_eq_true rfl, Nat.le_of_ble_eq_true rfl⟩ dX11_snuff_24) (fun H locs X => ?_)
      refine lv_iconst (v := -1) C.1 C.2.1 dX11_snuff_27 (by decide) ?_
      refine lv_icmp_ne (tgt := 41) C.1 C.2.1 dX11_snuff_28 (by decide) (fun c28 => ?_) (fun c28 => ?_)
      · replace h := ineg c28 h
        refine lv_aload_n C.1 C.2.1 dX11_snuff_41 rfl (lv_at hl 0 rfl) ?_
        refine gfX11 C G X (k := 0) kd_0 8 (v := .ref (gB E + 111)) rfl rfl (by decide) k_413 rfl dX11_snuff_42 ?_
        refine lv_aload_n C.1 C.2.1 dX11_snuff_45 rfl (lv_at hl 0 rfl) ?_
        refine gfX11 C G X (k := 0) kd_0 1 (v := .ref (gB E + 9)) rfl rfl (by decide) k_406 rfl dX11_snuff_46 ?_
        obtain ⟨σ49, e49, h⟩ := bnd h
        refine afV X (runV C G X q_X2_remember k_1307 k_1308 k_1306 (rcX2 G X kd_111) (c_X2_remember l E kd_9 e49) rfl hl.1 rfl (Nat.le_of_ble_eq_true rfl) ⟨Nat.le_of_ble_eq_true rfl, Nat.le_of_ble_eq_true rfl⟩ ⟨Nat.le_of_ble_eq_true rfl, Nat.le_of_ble_eq_true rfl⟩ dX11_snuff_49) (fun H locs X => ?_)
        refine lv_aload_n C.1 C.2.1 dX11_snuff_52 rfl (lv_at hl 0 rfl) ?_
        refine gfX11 C G X (k := 0) kd_0 1 (v := .ref (gB E + 9)) rfl rfl (by decide) k_406 rfl dX11_snuff_53 ?_
        refine lv_dup C.1 C.2.1 dX11_snuff_56 rfl ?_
        refine gfX7 C G X (k := 9) kd_9 8 (v := .int (σ49 9 8)) rfl rfl (by decide) k_231 rfl dX11_snuff_57 ?_
        refine lv_iload_n C.1 C.2.1 dX11_snuff_60 rfl (lv_at hl 1 rfl) ?_
        obtain ⟨r61, e61, h⟩ := bnd h
        refine afI X (runS C G X q_X11_bit k_506 k_1357 (c_X11_bit l E e61) rfl hl.1 rfl (Nat.le_of_ble_eq_true rfl) ⟨Nat.le_of_ble_eq_true rfl, Nat.le_of_ble_eq_true rfl⟩ ⟨Nat.le_of_ble_eq_true rfl, Nat.le_of_ble_eq_true rfl⟩ dX11_snuff_61) (fun H locs X => ?_)
        refine lv_iconst (v := -1) C.1 C.2.1 dX11_snuff_64 (by decide) ?_
        refine lv_ixor C.1 C.2.1 dX11_snuff_65 ?_
        refine lv_iand C.1 C.2.1 dX11_snuff_66 ?_
        obtain ⟨σ67, e67, h⟩ := bnd h
        refine pfX7 C G X (k := 9) kd_9 8 (x := ((σ49 9 8) &&& (r61 ^^^ (-1 : Int32)))) (ty := .int) rfl rfl (Nat.le_of_ble_eq_true rfl) (by decide) k_231 rfl rfl (by decide +kernel) rfl rfl dX11_snuff_67 (fun H locs X => ?_)
        replace X := pu_x e67 X
        refine lv_aload_n C.1 C.2.1 dX11_snuff_70 rfl (lv_at hl 0 rfl) ?_
        refine gfX11 C G X (k := 0) kd_0 1 (v := .ref (gB E + 9)) rfl rfl (by decide) k_406 rfl dX11_snuff_71 ?_
        refine lv_iconst (v := 3) C.1 C.2.1 dX11_snuff_74 (by decide) ?_
        refine lv_iload_n C.1 C.2.1 dX11_snuff_75 rfl (lv_at hl 1 rfl) ?_
        refine lv_aload_n C.1 C.2.1 dX11_snuff_76 rfl (lv_at hl 0 rfl) ?_
        refine gfX11 C G X (k := 0) kd_0 1 (v := .ref (gB E + 9)) rfl rfl (by decide) k_406 rfl dX11_snuff_77 ?_
        refine gfX7 C G X (k := 9) kd_9 10 (v := .ref (gB E + 12)) rfl rfl (by decide) k_238 rfl dX11_snuff_80 ?_
        refine lv_iload_n C.1 C.2.1 dX11_snuff_83 rfl (lv_at hl 1 rfl) ?_
        obtain ⟨r84, e84, h⟩ := bnd h
        refine afI X (runV C G X q_X6_get k_498 k_499 k_1182 (rcX6 G X kd_12) (c_X6_get l E kd_12 e84) rfl hl.1 rfl (Nat.le_of_ble_eq_true rfl) ⟨Nat.le_of_ble_eq_true rfl, Nat.le_of_ble_eq_true rfl⟩ ⟨Nat.le_of_ble_eq_true rfl, Nat.le_of_ble_eq_true rfl⟩ dX11_snuff_84) (fun H locs X => ?_)
        obtain ⟨σ87, e87, h⟩ := bnd h
        refine afV X (runV C G X q_X7_write k_593 k_594 k_1358 (rcX7 G X kd_9) (c_X7_write l E kd_9 e87) rfl hl.1 rfl (Nat.le_of_ble_eq_true rfl) ⟨Nat.le_of_ble_eq_true rfl, Nat.le_of_ble_eq_true rfl⟩ ⟨Nat.le_of_ble_eq_true rfl, Nat.le_of_ble_eq_true rfl⟩ dX11_snuff_87) (fun H locs X => ?_)
        refine lv_aload_n C.1 C.2.1 dX11_snuff_90 rfl (lv_at hl 0 rfl) ?_
        refine gfX11 C G X (k := 0) kd_0 1 (v := .ref (gB E + 9)) rfl rfl (by decide) k_406 rfl dX11_snuff_91 ?_
        refine gfX7 C G X (k := 9) kd_9 9 (v := .ref (gB E + 10)) rfl rfl (by decide) k_234 rfl dX11_snuff_94 ?_
        refine lv_iload_n C.1 C.2.1 dX11_snuff_97 rfl (lv_at hl 1 rfl) ?_
        obtain ⟨r98, e98, h⟩ := bnd h
        refine afI X (runV C G X q_X6_get k_498 k_499 k_1182 (rcX6 G X kd_10) (c_X6_get l E kd_10 e98) rfl hl.1 rfl (Nat.le_of_ble_eq_true rfl) ⟨Nat.le_of_ble_eq_true rfl, Nat.le_of_ble_eq_true rfl⟩ ⟨Nat.le_of_ble_eq_true rfl, Nat.le_of_ble_eq_true rfl⟩ dX11_snuff_98) (fun H locs X => ?_)
        refine W.widen (k := 2) (n := 12) (Nat.le_of_ble_eq_true rfl) (Nat.le_of_ble_eq_true rfl) ?_
        rw [← Option.some.inj h]
        exact vx_ret (rtxI C X dX11_snuff_101)
      · replace h := ipos c28 h
        exact w_X11_snuff_31 C G T0 hT X (lv_sub hl [] rfl) h
  · refine axV X (runXV C G X q_X11_needPane k_1164 kp_11 k_1162 (rcX11 G X kd_0) (c_X11_needPane l E hT e2) rfl hl.1 rfl (Nat.le_of_ble_eq_true rfl) ⟨Nat.le_of_ble_eq_true rfl, Nat.le_of_ble_eq_true rfl⟩ ⟨Nat.le_of_ble_eq_true rfl, Nat.le_of_ble_eq_true rfl⟩ dX11_snuff_2) (fun r9 H locs er X => nomatch er) (fun x9 H locs q9 ce er X hz hv hcl => ?_)
    rw [← Sum.inr.inj er] at hcl
    rw [← Option.some.inj h]
    exact xout C X T0 hz hv hcl (Nat.le_of_ble_eq_true rfl) (Nat.le_of_ble_eq_true rfl)

theorem c_X11_snuff (l : Launch) (E : GE) (hT : l.stackTraces = false) {σ : Mem} {x1 : Int32} {r : ((Int32 ⊕ Nat) × Mem)} (h : X11_snuff x1 σ = some r) : CtX l E yX11_snuff cX11_snuff 2 .int 13 2 [.ref (gB E + 0), .int x1] σ r.1 r.2 := by
  refine vx_ofW (cc := cX11_snuff) (maxL := 2) (ret := (some .int)) (by decide) rfl ?_
  intro p e s m args below meth c s₁ B hml T0 hv
  obtain ⟨rfl, G, X⟩ := start hv
  have C := cxof B hml
  have hl := lv_entry [.ref (gB E + 0), .int x1] (n := 2) (Nat.le_of_ble_eq_true rfl)
  rw [lg_entry_eq]
  generalize (lg_sl [.ref (gB E + 0), .int x1] ++ List.replicate (2 - (lg_sl [.ref (gB E + 0), .int x1]).length) Slot.unset).toArray = ls at hl ⊢
  exact w_X11_snuff C G T0 hT X hl h

set_option maxRecDepth 20000 in
theorem w_X11_oil {r : ((Int32 ⊕ Nat) × Mem)} {σ : Mem} {x1 : Int32} {x2 : Int32} {ls : Array Slot} {H : Heap} {locs : List Loc} (C : Cx p s m args meth c cX11_oil (some .int) 3 RX11) (G : Gf E s) (T0 : ∀ x ∈ c.exceptionTable.toList, False) (hT : l.stackTraces = false) (X : Hx E σ s H locs) (hl : lv_has ls 3 [(0, .ref (gB E + 0)), (1, .int x1), (2, .int x2)]) (h : X11_oil x1 x2 σ = some r) : W p l e (RX 13 2) s m args below meth c H locs 0 0 (QX E below args s 2 r.1 r.2) (F0 m 0 ls []) := by
  rw [X11_oil] at h
  refine lv_aload_n C.1 C.2.1 dX11_oil_0 rfl (lv_at hl 0 rfl) ?_
  refine lv_iload_n C.1 C.2.1 dX11_oil_1 rfl (lv_at hl 1 rfl) ?_
  rcases bndx h with ⟨r2, e2, h⟩ | ⟨x2_, e2, h⟩
  · refine axV X (runXV C G X q_X11_needPane k_1164 kp_11 k_1162 (rcX11 G X kd_0) (c_X11_needPane l E hT e2) rfl hl.1 rfl (Nat.le_of_ble_eq_true rfl) ⟨Nat.le_of_ble_eq_true rfl, Nat.le_of_ble_eq_true rfl⟩ ⟨Nat.le_of_ble_eq_true rfl, Nat.le_of_ble_eq_true rfl⟩ dX11_oil_2) (fun r9 H locs er X => ?_) (fun x9 H locs q9 ce er X hz hv hcl => nomatch er)
    refine lv_iload_n C.1 C.2.1 dX11_oil_5 rfl (lv_at hl 2 rfl) ?_
    refine lv_iconst (v := 1) C.1 C.2.1 dX11_oil_6 (by decide) ?_
    refine lv_bipush (v := 99) C.1 C.2.1 dX11_oil_7 (by decide) ?_
    rcases bndx h with ⟨r9, e9, h⟩ | ⟨x9_, e9, h⟩
    · refine axV X (runXS C G X q_X11_needNumber k_1303 k_1302 (c_X11_needNumber l E hT e9) rfl hl.1 rfl (Nat.le_of_ble_eq_true rfl) ⟨Nat.le_of_ble_eq_true rfl, Nat.le_of_ble_eq_true rfl⟩ ⟨Nat.le_of_ble_eq_true rfl, Nat.le_of_ble_eq_true rfl⟩ dX11_oil_9) (fun r9 H locs er X => ?_) (fun x9 H locs q9 ce er X hz hv hcl => nomatch er)
      refine lv_aload_n C.1 C.2.1 dX11_oil_12 rfl (lv_at hl 0 rfl) ?_
      refine gfX11 C G X (k := 0) kd_0 8 (v := .ref (gB E + 111)) rfl rfl (by decide) k_413 rfl dX11_oil_13 ?_
      refine lv_aload_n C.1 C.2.1 dX11_oil_16 rfl (lv_at hl 0 rfl) ?_
      refine gfX11 C G X (k := 0) kd_0 1 (v := .ref (gB E + 9)) rfl rfl (by decide) k_406 rfl dX11_oil_17 ?_
      obtain ⟨σ20, e20, h⟩ := bnd h
      refine afV X (runV C G X q_X2_remember k_1307 k_1308 k_1306 (rcX2 G X kd_111) (c_X2_remember l E kd_9 e20) rfl hl.1 rfl (Nat.le_of_ble_eq_true rfl) ⟨Nat.le_of_ble_eq_true rfl, Nat.le_of_ble_eq_true rfl⟩ ⟨Nat.le_of_ble_eq_true rfl, Nat.le_of_ble_eq_true rfl⟩ dX11_oil_20) (fun H locs X => ?_)
      refine lv_aload_n C.1 C.2.1 dX11_oil_23 rfl (lv_at hl 0 rfl) ?_
      refine gfX11 C G X (k := 0) kd_0 1 (v := .ref (gB E + 9)) rfl rfl (by decide) k_406 rfl dX11_oil_24 ?_
      refine gfX7 C G X (k := 9) kd_9 9 (v := .ref (gB E + 10)) rfl rfl (by decide) k_234 rfl dX11_oil_27 ?_
      refine lv_iload_n C.1 C.2.1 dX11_oil_30 rfl (lv_at hl 1 rfl) ?_
      refine lv_aload_n C.1 C.2.1 dX11_oil_31 rfl (lv_at hl 0 rfl) ?_
      refine gfX11 C G X (k := 0) kd_0 1 (v := .ref (gB E + 9)) rfl rfl (by decide) k_406 rfl dX11_oil_32 ?_
      refine gfX7 C G X (k := 9) kd_9 9 (v := .ref (gB E + 10)) rfl rfl (by decide) k_234 rfl dX11_oil_35 ?_
      refine lv_iload_n C.1 C.2.1 dX11_oil_38 rfl (lv_at hl 1 rfl) ?_
      obtain ⟨r39, e39, h⟩ := bnd h
      refine afI X (runV C G X q_X6_get k_498 k_499 k_1182 (rcX6 G X kd_10) (c_X6_get l E kd_10 e39) rfl hl.1 rfl (Nat.le_of_ble_eq_true rfl) ⟨Nat.le_of_ble_eq_true rfl, Nat.le_of_ble_eq_true rfl⟩ ⟨Nat.le_of_ble_eq_true rfl, Nat.le_of_ble_eq_true rfl⟩ dX11_oil_39) (fun H locs X => ?_)
      refine lv_iload_n C.1 C.2.1 dX11_oil_42 rfl (lv_at hl 2 rfl) ?_
      refine lv_iadd C.1 C.2.1 dX11_oil_43 ?_
      refine lv_bipush (v := 99) C.1 C.2.1 dX11_oil_44 (by decide) ?_
      refine mmin C hl.1 (cells := 2) k_1366 ⟨Nat.le_of_ble_eq_true rfl, Nat.le_of_ble_eq_true rfl, Nat.le_of_ble_eq_true rfl, Nat.le_of_ble_eq_true rfl⟩ dX11_oil_46 ?_
      obtain ⟨σ49, e49, h⟩ := bnd h
      refine afV X (runV C G X q_X6_set k_451 k_452 k_1319 (rcX6 G X kd_10) (c_X6_set l E kd_10 e49) rfl hl.1 rfl (Nat.le_of_ble_eq_true rfl) ⟨Nat.le_of_ble_eq_true rfl, Nat.le_of_ble_eq_true rfl⟩ ⟨Nat.le_of_ble_eq_true rfl, Nat.le_of_ble_eq_true rfl⟩ dX11_oil_49) (fun H locs X => ?_)
      refine lv_aload_n C.1 C.2.1 dX11_oil_52 rfl (lv_at hl 0 rfl) ?_
      refine gfX11 C G X (k := 0) kd_0 1 (v := .ref (gB E + 9)) rfl rfl (by decide) k_406 rfl dX11_oil_53 ?_
      refine gfX7 C G X (k := 9) kd_9 9 (v := .ref (gB E + 10)) rfl rfl (by decide) k_234 rfl dX11_oil_56 ?_
      refine lv_iload_n C.1 C.2.1 dX11_oil_59 rfl (lv_at hl 1 rfl) ?_
      obtain ⟨r60, e60, h⟩ := bnd h
      refine afI X (runV C G X q_X6_get k_498 k_499 k_1182 (rcX6 G X kd_10) (c_X6_get l E kd_10 e60) rfl hl.1 rfl (Nat.le_of_ble_eq_true rfl) ⟨Nat.le_of_ble_eq_true rfl, Nat.le_of_ble_eq_true rfl⟩ ⟨Nat.le_of_ble_eq_true rfl, Nat.le_of_ble_eq_true rfl⟩ dX11_oil_60) (fun H locs X => ?_)
      rw [← Option.some.inj h]
      exact vx_ret (rtxI C X dX11_oil_63)
    · refine axV X (runXS C G X q_X11_needNumber k_1303 k_1302 (c_X11_needNumber l E hT e9) rfl hl.1 rfl (Nat.le_of_ble_eq_true rfl) ⟨Nat.le_of_ble_eq_true rfl, Nat.le_of_ble_eq_true rfl⟩ ⟨Nat.le_of_ble_eq_true rfl, Nat.le_of_ble_eq_true rfl⟩ dX11_oil_9) (fun r9 H locs er X => nomatch er) (fun x9 H locs q9 ce er X hz hv hcl => ?_)
      rw [← Sum.inr.inj er] at hcl
      rw [← Option.some.inj h]
      exact xout C X T0 hz hv hcl (Nat.le_of_ble_eq_true rfl) (Nat.le_of_ble_eq_true rfl)
  · refine axV X (runXV C G X q_X11_needPane k_1164 kp_11 k_1162 (rcX11 G X kd_0) (c_X11_needPane l E hT e2) rfl hl.1 rfl (Nat.le_of_ble_eq_true rfl) ⟨Nat.le_of_ble_eq_true rfl, Nat.le_of_ble_eq_true rfl⟩ ⟨Nat.le_of_ble_eq_true rfl, Nat.le_of_ble_eq_true rfl⟩ dX11_oil_2) (fun r9 H locs er X => nomatch er) (fun x9 H locs q9 ce er X hz hv hcl => ?_)
    rw [← Sum.inr.inj er] at hcl
    rw [← Option.some.inj h]
    exact xout C X T0 hz hv hcl (Nat.le_of_ble_eq_true rfl) (Nat.le_of_ble_eq_true rfl)

theorem c_X11_oil (l : Launch) (E : GE) (hT : l.stackTraces = false) {σ : Mem} {x1 : Int32} {x2 : Int32} {r : ((Int32 ⊕ Nat) × Mem)} (h : X11_oil x1 x2 σ = some r) : CtX l E yX11_oil cX11_oil 3 .int 13 2 [.ref (gB E + 0), .int x1, .int x2] σ r.1 r.2 := by
  refine vx_ofW (cc := cX11_oil) (maxL := 3) (ret := (some .int)) (by decide) rfl ?_
  intro p e s m args below meth c s₁ B hml T0 hv
  obtain ⟨rfl, G, X⟩ := start hv
  have C := cxof B hml
  have hl := lv_entry [.ref (gB E + 0), .int x1, .int x2] (n := 3) (Nat.le_of_ble_eq_true rfl)
  rw [lg_entry_eq]
  generalize (lg_sl [.ref (gB E + 0), .int x1, .int x2] ++ List.replicate (3 - (lg_sl [.ref (gB E + 0), .int x1, .int x2]).length) Slot.unset).toArray = ls at hl ⊢
  exact w_X11_oil C G T0 hT X hl h

set_option maxRecDepth 20000 in
theorem w_X11_taper {r : ((Int32 ⊕ Nat) × Mem)} {σ : Mem} {x1 : Int32} {x2 : Int32} {ls : Array Slot} {H : Heap} {locs : List Loc} (C : Cx p s m args meth c cX11_taper (some .int) 3 RX11) (G : Gf E s) (T0 : ∀ x ∈ c.exceptionTable.toList, False) (hT : l.stackTraces = false) (X : Hx E σ s H locs) (hl : lv_has ls 3 [(0, .ref (gB E + 0)), (1, .int x1), (2, .int x2)]) (h : X11_taper x1 x2 σ = some r) : W p l e (RX 13 2) s m args below meth c H locs 0 0 (QX E below args s 2 r.1 r.2) (F0 m 0 ls []) := by
  rw [X11_taper] at h
  refine lv_aload_n C.1 C.2.1 dX11_taper_0 rfl (lv_at hl 0 rfl) ?_
  refine lv_iload_n C.1 C.2.1 dX11_taper_1 rfl (lv_at hl 1 rfl) ?_
  rcases bndx h with ⟨r2, e2, h⟩ | ⟨x2_, e2, h⟩
  · refine axV X (runXV C G X q_X11_needWalker k_1216 kp_12 k_1214 (rcX11 G X kd_0) (c_X11_needWalker l E hT e2) rfl hl.1 rfl (Nat.le_of_ble_eq_true rfl) ⟨Nat.le_of_ble_eq_true rfl, Nat.le_of_ble_eq_true rfl⟩ ⟨Nat.le_of_ble_eq_true rfl, Nat.le_of_ble_eq_true rfl⟩ dX11_taper_2) (fun r9 H locs er X => ?_) (fun x9 H locs q9 ce er X hz hv hcl => nomatch er)
    refine lv_iload_n C.1 C.2.1 dX11_taper_5 rfl (lv_at hl 2 rfl) ?_
    refine lv_iconst (v := 1) C.1 C.2.1 dX11_taper_6 (by decide) ?_
    refine lv_bipush (v := 99) C.1 C.2.1 dX11_taper_7 (by decide) ?_
    rcases bndx h with ⟨r9, e9, h⟩ | ⟨x9_, e9, h⟩
    · refine axV X (runXS C G X q_X11_needNumber k_1303 k_1302 (c_X11_needNumber l E hT e9) rfl hl.1 rfl (Nat.le_of_ble_eq_true rfl) ⟨Nat.le_of_ble_eq_true rfl, Nat.le_of_ble_eq_true rfl⟩ ⟨Nat.le_of_ble_eq_true rfl, Nat.le_of_ble_eq_true rfl⟩ dX11_taper_9) (fun r9 H locs er X => ?_) (fun x9 H locs q9 ce er X hz hv hcl => nomatch er)
      refine lv_aload_n C.1 C.2.1 dX11_taper_12 rfl (lv_at hl 0 rfl) ?_
      refine gfX11 C G X (k := 0) kd_0 8 (v := .ref (gB E + 111)) rfl rfl (by decide) k_413 rfl dX11_taper_13 ?_
      refine lv_aload_n C.1 C.2.1 dX11_taper_16 rfl (lv_at hl 0 rfl) ?_
      refine gfX11 C G X (k := 0) kd_0 1 (v := .ref (gB E + 9)) rfl rfl (by decide) k_406 rfl dX11_taper_17 ?_
      obtain ⟨σ20, e20, h⟩ := bnd h
      refine afV X (runV C G X q_X2_remember k_1307 k_1308 k_1306 (rcX2 G X kd_111) (c_X2_remember l E kd_9 e20) rfl hl.1 rfl (Nat.le_of_ble_eq_true rfl) ⟨Nat.le_of_ble_eq_true rfl, Nat.le_of_ble_eq_true rfl⟩ ⟨Nat.le_of_ble_eq_true rfl, Nat.le_of_ble_eq_true rfl⟩ dX11_taper_20) (fun H locs X => ?_)
      refine lv_aload_n C.1 C.2.1 dX11_taper_23 rfl (lv_at hl 0 rfl) ?_
      refine gfX11 C G X (k := 0) kd_0 1 (v := .ref (gB E + 9)) rfl rfl (by decide) k_406 rfl dX11_taper_24 ?_
      refine gfX7 C G X (k := 9) kd_9 14 (v := .ref (gB E + 20)) rfl rfl (by decide) k_254 rfl dX11_taper_27 ?_
      refine lv_iload_n C.1 C.2.1 dX11_taper_30 rfl (lv_at hl 1 rfl) ?_
      refine lv_aload_n C.1 C.2.1 dX11_taper_31 rfl (lv_at hl 0 rfl) ?_
      refine gfX11 C G X (k := 0) kd_0 1 (v := .ref (gB E + 9)) rfl rfl (by decide) k_406 rfl dX11_taper_32 ?_
      refine gfX7 C G X (k := 9) kd_9 14 (v := .ref (gB E + 20)) rfl rfl (by decide) k_254 rfl dX11_taper_35 ?_
      refine lv_iload_n C.1 C.2.1 dX11_taper_38 rfl (lv_at hl 1 rfl) ?_
      obtain ⟨r39, e39, h⟩ := bnd h
      refine afI X (runV C G X q_X6_get k_498 k_499 k_1182 (rcX6 G X kd_20) (c_X6_get l E kd_20 e39) rfl hl.1 rfl (Nat.le_of_ble_eq_true rfl) ⟨Nat.le_of_ble_eq_true rfl, Nat.le_of_ble_eq_true rfl⟩ ⟨Nat.le_of_ble_eq_true rfl, Nat.le_of_ble_eq_true rfl⟩ dX11_taper_39) (fun H locs X => ?_)
      refine lv_iload_n C.1 C.2.1 dX11_taper_42 rfl (lv_at hl 2 rfl) ?_
      refine lv_iadd C.1 C.2.1 dX11_taper_43 ?_
      refine lv_bipush (v := 99) C.1 C.2.1 dX11_taper_44 (by decide) ?_
      refine mmin C hl.1 (cells := 2) k_1366 ⟨Nat.le_of_ble_eq_true rfl, Nat.le_of_ble_eq_true rfl, Nat.le_of_ble_eq_true rfl, Nat.le_of_ble_eq_true rfl⟩ dX11_taper_46 ?_
      obtain ⟨σ49, e49, h⟩ := bnd h
      refine afV X (runV C G X q_X6_set k_451 k_452 k_1319 (rcX6 G X kd_20) (c_X6_set l E kd_20 e49) rfl hl.1 rfl (Nat.le_of_ble_eq_true rfl) ⟨Nat.le_of_ble_eq_true rfl, Nat.le_of_ble_eq_true rfl⟩ ⟨Nat.le_of_ble_eq_true rfl, Nat.le_of_ble_eq_true rfl⟩ dX11_taper_49) (fun H locs X => ?_)
      refine lv_aload_n C.1 C.2.1 dX11_taper_52 rfl (lv_at hl 0 rfl) ?_
      refine gfX11 C G X (k := 0) kd_0 1 (v := .ref (gB E + 9)) rfl rfl (by decide) k_406 rfl dX11_taper_53 ?_
      refine gfX7 C G X (k := 9) kd_9 14 (v := .ref (gB E + 20)) rfl rfl (by decide) k_254 rfl dX11_taper_56 ?_
      refine lv_iload_n C.1 C.2.1 dX11_taper_59 rfl (lv_at hl 1 rfl) ?_
      obtain ⟨r60, e60, h⟩ := bnd h
      refine afI X (runV C G X q_X6_get k_498 k_499 k_1182 (rcX6 G X kd_20) (c_X6_get l E kd_20 e60) rfl hl.1 rfl (Nat.le_of_ble_eq_true rfl) ⟨Nat.le_of_ble_eq_true rfl, Nat.le_of_ble_eq_true rfl⟩ ⟨Nat.le_of_ble_eq_true rfl, Nat.le_of_ble_eq_true rfl⟩ dX11_taper_60) (fun H locs X => ?_)
      rw [← Option.some.inj h]
      exact vx_ret (rtxI C X dX11_taper_63)
    · refine axV X (runXS C G X q_X11_needNumber k_1303 k_1302 (c_X11_needNumber l E hT e9) rfl hl.1 rfl (Nat.le_of_ble_eq_true rfl) ⟨Nat.le_of_ble_eq_true rfl, Nat.le_of_ble_eq_true rfl⟩ ⟨Nat.le_of_ble_eq_true rfl, Nat.le_of_ble_eq_true rfl⟩ dX11_taper_9) (fun r9 H locs er X => nomatch er) (fun x9 H locs q9 ce er X hz hv hcl => ?_)
      rw [← Sum.inr.inj er] at hcl
      rw [← Option.some.inj h]
      exact xout C X T0 hz hv hcl (Nat.le_of_ble_eq_true rfl) (Nat.le_of_ble_eq_true rfl)
  · refine axV X (runXV C G X q_X11_needWalker k_1216 kp_12 k_1214 (rcX11 G X kd_0) (c_X11_needWalker l E hT e2) rfl hl.1 rfl (Nat.le_of_ble_eq_true rfl) ⟨Nat.le_of_ble_eq_true rfl, Nat.le_of_ble_eq_true rfl⟩ ⟨Nat.le_of_ble_eq_true rfl, Nat.le_of_ble_eq_true rfl⟩ dX11_taper_2) (fun r9 H locs er X => nomatch er) (fun x9 H locs q9 ce er X hz hv hcl => ?_)
    rw [← Sum.inr.inj er] at hcl
    rw [← Option.some.inj h]
    exact xout C X T0 hz hv hcl (Nat.le_of_ble_eq_true rfl) (Nat.le_of_ble_eq_true rfl)

theorem c_X11_taper (l : Launch) (E : GE) (hT : l.stackTraces = false) {σ : Mem} {x1 : Int32} {x2 : Int32} {r : ((Int32 ⊕ Nat) × Mem)} (h : X11_taper x1 x2 σ = some r) : CtX l E yX11_taper cX11_taper 3 .int 13 2 [.ref (gB E + 0), .int x1, .int x2] σ r.1 r.2 := by
  refine vx_ofW (cc := cX11_taper) (maxL := 3) (ret := (some .int)) (by decide) rfl ?_
  intro p e s m args below meth c s₁ B hml T0 hv
  obtain ⟨rfl, G, X⟩ := start hv
  have C := cxof B hml
  have hl := lv_entry [.ref (gB E + 0), .int x1, .int x2] (n := 3) (Nat.le_of_ble_eq_true rfl)
  rw [lg_entry_eq]
  generalize (lg_sl [.ref (gB E + 0), .int x1, .int x2] ++ List.replicate (3 - (lg_sl [.ref (gB E + 0), .int x1, .int x2]).length) Slot.unset).toArray = ls at hl ⊢
  exact w_X11_taper C G T0 hT X hl h

set_option maxRecDepth 20000 in
theorem w_X11_like {r : ((Int32 ⊕ Nat) × Mem)} {σ : Mem} {x1 : Int32} {x2 : Int32} {x3 : Int32} {ls : Array Slot} {H : Heap} {locs : List Loc} (C : Cx p s m args meth c cX11_like (some .int) 5 RX11) (G : Gf E s) (T0 : ∀ x ∈ c.exceptionTable.toList, False) (hT : l.stackTraces = false) (X : Hx E σ s H locs) (hl : lv_has ls 5 [(0, .ref (gB E + 0)), (1, .int x1), (2, .int x2), (3, .int x3)]) (h : X11_like x1 x2 x3 σ = some r) : W p l e (RX 14 4) s m args below meth c H locs 0 0 (QX E below args s 4 r.1 r.2) (F0 m 0 ls []) := by
  rw [X11_like] at h
  refine lv_aload_n C.1 C.2.1 dX11_like_0 rfl (lv_at hl 0 rfl) ?_
  refine lv_iload_n C.1 C.2.1 dX11_like_1 rfl (lv_at hl 1 rfl) ?_
  refine lv_iload_n C.1 C.2.1 dX11_like_2 rfl (lv_at hl 2 rfl) ?_
  rcases bndx h with ⟨r3, e3, h⟩ | ⟨x3_, e3, h⟩
  · refine axV X (runXV C G X q_X11_needTwoWalkers k_1257 kp_14 k_1255 (rcX11 G X kd_0) (c_X11_needTwoWalkers l E hT e3) rfl hl.1 rfl (Nat.le_of_ble_eq_true rfl) ⟨Nat.le_of_ble_eq_true rfl, Nat.le_of_ble_eq_true rfl⟩ ⟨Nat.le_of_ble_eq_true rfl, Nat.le_of_ble_eq_true rfl⟩ dX11_like_3) (fun r9 H locs er X => ?_) (fun x9 H locs q9 ce er X hz hv hcl => nomatch er)
    refine lv_iload_n C.1 C.2.1 dX11_like_6 rfl (lv_at hl 3 rfl) ?_
    refine lv_iconst (v := 0) C.1 C.2.1 dX11_like_7 (by decide) ?_
    refine lv_bipush (v := 9) C.1 C.2.1 dX11_like_8 (by decide) ?_
    rcases bndx h with ⟨r10, e10, h⟩ | ⟨x10_, e10, h⟩
    · refine axV X (runXS C G X q_X11_needNumber k_1303 k_1302 (c_X11_needNumber l E hT e10) rfl hl.1 rfl (Nat.le_of_ble_eq_true rfl) ⟨Nat.le_of_ble_eq_true rfl, Nat.le_of_ble_eq_true rfl⟩ ⟨Nat.le_of_ble_eq_true rfl, Nat.le_of_ble_eq_true rfl⟩ dX11_like_10) (fun r9 H locs er X => ?_) (fun x9 H locs q9 ce er X hz hv hcl => nomatch er)
      refine lv_aload_n C.1 C.2.1 dX11_like_13 rfl (lv_at hl 0 rfl) ?_
      refine gfX11 C G X (k := 0) kd_0 8 (v := .ref (gB E + 111)) rfl rfl (by decide) k_413 rfl dX11_like_14 ?_
      refine lv_aload_n C.1 C.2.1 dX11_like_17 rfl (lv_at hl 0 rfl) ?_
      refine gfX11 C G X (k := 0) kd_0 1 (v := .ref (gB E + 9)) rfl rfl (by decide) k_406 rfl dX11_like_18 ?_
      obtain ⟨σ21, e21, h⟩ := bnd h
      refine afV X (runV C G X q_X2_remember k_1307 k_1308 k_1306 (rcX2 G X kd_111) (c_X2_remember l E kd_9 e21) rfl hl.1 rfl (Nat.le_of_ble_eq_true rfl) ⟨Nat.le_of_ble_eq_true rfl, Nat.le_of_ble_eq_true rfl⟩ ⟨Nat.le_of_ble_eq_true rfl, Nat.le_of_ble_eq_true rfl⟩ dX11_like_21) (fun H locs X => ?_)
      refine lv_aload_n C.1 C.2.1 dX11_like_24 rfl (lv_at hl 0 rfl) ?_
      refine gfX11 C G X (k := 0) kd_0 1 (v := .ref (gB E + 9)) rfl rfl (by decide) k_406 rfl dX11_like_25 ?_
      refine lv_iload_n C.1 C.2.1 dX11_like_28 rfl (lv_at hl 1 rfl) ?_
      refine lv_iload_n C.1 C.2.1 dX11_like_29 rfl (lv_at hl 2 rfl) ?_
      obtain ⟨r30, e30, h⟩ := bnd h
      refine afI X (runV C G X q_X7_likesOf k_530 k_531 k_1260 (rcX7 G X kd_9) (c_X7_likesOf l E kd_9 e30) rfl hl.1 rfl (Nat.le_of_ble_eq_true rfl) ⟨Nat.le_of_ble_eq_true rfl, Nat.le_of_ble_eq_true rfl⟩ ⟨Nat.le_of_ble_eq_true rfl, Nat.le_of_ble_eq_true rfl⟩ dX11_like_30) (fun H locs X => ?_)
      refine lv_istore (lv' := [(4, .int r30), (0, .ref (gB E + 0)), (1, .int x1), (2, .int x2), (3, .int x3)]) C.1 C.2.1 dX11_like_33 hl (by decide) rfl (fun ls hl => ?_)
      refine lv_aload_n C.1 C.2.1 dX11_like_35 rfl (lv_at hl 1 rfl) ?_
      refine gfX11 C G X (k := 0) kd_0 1 (v := .ref (gB E + 9)) rfl rfl (by decide) k_406 rfl dX11_like_36 ?_
      refine lv_iload_n C.1 C.2.1 dX11_like_39 rfl (lv_at hl 2 rfl) ?_
      refine lv_iload_n C.1 C.2.1 dX11_like_40 rfl (lv_at hl 3 rfl) ?_
      refine lv_iload_n C.1 C.2.1 dX11_like_41 rfl (lv_at hl 4 rfl) ?_
      obtain ⟨σ42, e42, h⟩ := bnd h
      refine afV X (runV C G X q_X7_setLikes k_589 k_590 k_1381 (rcX7 G X kd_9) (c_X7_setLikes l E kd_9 e42) rfl hl.1 rfl (Nat.le_of_ble_eq_true rfl) ⟨Nat.le_of_ble_eq_true rfl, Nat.le_of_ble_eq_true rfl⟩ ⟨Nat.le_of_ble_eq_true rfl, Nat.le_of_ble_eq_true rfl⟩ dX11_like_42) (fun H locs X => ?_)
      refine lv_iload C.1 C.2.1 dX11_like_45 (lv_at hl 0 rfl) ?_
      rw [← Option.some.inj h]
      exact vx_ret (rtxI C X dX11_like_47)
    · refine axV X (runXS C G X q_X11_needNumber k_1303 k_1302 (c_X11_needNumber l E hT e10) rfl hl.1 rfl (Nat.le_of_ble_eq_true rfl) ⟨Nat.le_of_ble_eq_true rfl, Nat.le_of_ble_eq_true rfl⟩ ⟨Nat.le_of_ble_eq_true rfl, Nat.le_of_ble_eq_true rfl⟩ dX11_like_10) (fun r9 H locs er X => nomatch er) (fun x9 H locs q9 ce er X hz hv hcl => ?_)
      rw [← Sum.inr.inj er] at hcl
      rw [← Option.some.inj h]
      exact xout C X T0 hz hv hcl (Nat.le_of_ble_eq_true rfl) (Nat.le_of_ble_eq_true rfl)
  · refine axV X (runXV C G X q_X11_needTwoWalkers k_1257 kp_14 k_1255 (rcX11 G X kd_0) (c_X11_needTwoWalkers l E hT e3) rfl hl.1 rfl (Nat.le_of_ble_eq_true rfl) ⟨Nat.le_of_ble_eq_true rfl, Nat.le_of_ble_eq_true rfl⟩ ⟨Nat.le_of_ble_eq_true rfl, Nat.le_of_ble_eq_true rfl⟩ dX11_like_3) (fun r9 H locs er X => nomatch er) (fun x9 H locs q9 ce er X hz hv hcl => ?_)
    rw [← Sum.inr.inj er] at hcl
    rw [← Option.some.inj h]
    exact xout C X T0 hz hv hcl (Nat.le_of_ble_eq_true rfl) (Nat.le_of_ble_eq_true rfl)

theorem c_X11_like (l : Launch) (E : GE) (hT : l.stackTraces = false) {σ : Mem} {x1 : Int32} {x2 : Int32} {x3 : Int32} {r : ((Int32 ⊕ Nat) × Mem)} (h : X11_like x1 x2 x3 σ = some r) : CtX l E yX11_like cX11_like 5 .int 14 4 [.ref (gB E + 0), .int x1, .int x2, .int x3] σ r.1 r.2 := by
  refine vx_ofW (cc := cX11_like) (maxL := 5) (ret := (some .int)) (by decide) rfl ?_
  intro p e s m args below meth c s₁ B hml T0 hv
  obtain ⟨rfl, G, X⟩ := start hv
  have C := cxof B hml
  have hl := lv_entry [.ref (gB E + 0), .int x1, .int x2, .int x3] (n := 5) (Nat.le_of_ble_eq_true rfl)
  rw [lg_entry_eq]
  generalize (lg_sl [.ref (gB E + 0), .int x1, .int x2, .int x3] ++ List.replicate (5 - (lg_sl [.ref (gB E + 0), .int x1, .int x2, .int x3]).length) Slot.unset).toArray = ls at hl ⊢
  exact w_X11_like C G T0 hT X hl h

set_option maxRecDepth 20000 in
theorem w_X11_way {r : ((Int32 ⊕ Nat) × Mem)} {σ : Mem} {x1 : Int32} {x2 : Int32} {x3 : Int32} {ls : Array Slot} {H : Heap} {locs : List Loc} (C : Cx p s m args meth c cX11_way (some .boolean) 5 RX11) (G : Gf E s) (T0 : ∀ x ∈ c.exceptionTable.toList, False) (hT : l.stackTraces = false) (X : Hx E σ s H locs) (hl : lv_has ls 5 [(0, .ref (gB E + 0)), (1, .int x1), (2, .int x2), (3, .int x3)]) (h : X11_way x1 x2 x3 σ = some r) : W p l e (RX 14 3) s m args below meth c H locs 0 0 (QX E below args s 3 r.1 r.2) (F0 m 0 ls []) := by
  rw [X11_way] at h
  refine lv_aload_n C.1 C.2.1 dX11_way_0 rfl (lv_at hl 0 rfl) ?_
  refine lv_iload_n C.1 C.2.1 dX11_way_1 rfl (lv_at hl 1 rfl) ?_
  refine lv_iload_n C.1 C.2.1 dX11_way_2 rfl (lv_at hl 2 rfl) ?_
  rcases bndx h with ⟨r3, e3, h⟩ | ⟨x3_, e3, h⟩
  · refine axV X (runXV C G X q_X11_needTwoPanes k_1288 kp_15 k_1286 (rcX11 G X kd_0) (c_X11_needTwoPanes l E hT e3) rfl hl.1 rfl (Nat.le_of_ble_eq_true rfl) ⟨Nat.le_of_ble_eq_true rfl, Nat.le_of_ble_eq_true rfl⟩ ⟨Nat.le_of_ble_eq_true rfl, Nat.le_of_ble_eq_true rfl⟩ dX11_way_3) (fun r9 H locs er X => ?_) (fun x9 H locs q9 ce er X hz hv hcl => nomatch er)
    refine lv_aload_n C.1 C.2.1 dX11_way_6 rfl (lv_at hl 0 rfl) ?_
    refine gfX11 C G X (k := 0) kd_0 8 (v := .ref (gB E + 111)) rfl rfl (by decide) k_413 rfl dX11_way_7 ?_
    refine lv_aload_n C.1 C.2.1 dX11_way_10 rfl (lv_at hl 0 rfl) ?_
    refine gfX11 C G X (k := 0) kd_0 1 (v := .ref (gB E + 9)) rfl rfl (by decide) k_406 rfl dX11_way_11 ?_
    obtain ⟨σ14, e14, h⟩ := bnd h
    refine afV X (runV C G X q_X2_remember k_1307 k_1308 k_1306 (rcX2 G X kd_111) (c_X2_remember l E kd_9 e14) rfl hl.1 rfl (Nat.le_of_ble_eq_true rfl) ⟨Nat.le_of_ble_eq_true rfl, Nat.le_of_ble_eq_true rfl⟩ ⟨Nat.le_of_ble_eq_true rfl, Nat.le_of_ble_eq_true rfl⟩ dX11_way_14) (fun H locs X => ?_)
    refine lv_aload_n C.1 C.2.1 dX11_way_17 rfl (lv_at hl 0 rfl) ?_
    refine gfX11 C G X (k := 0) kd_0 1 (v := .ref (gB E + 9)) rfl rfl (by decide) k_406 rfl dX11_way_18 ?_
    refine lv_iload_n C.1 C.2.1 dX11_way_21 rfl (lv_at hl 1 rfl) ?_
    refine lv_iload_n C.1 C.2.1 dX11_way_22 rfl (lv_at hl 2 rfl) ?_
    obtain ⟨r23, e23, h⟩ := bnd h
    refine afI X (runV C G X q_X7_hasWay k_1292 k_1293 k_1291 (rcX7 G X kd_9) (c_X7_hasWay l E kd_9 e23) rfl hl.1 rfl (Nat.le_of_ble_eq_true rfl) ⟨Nat.le_of_ble_eq_true rfl, Nat.le_of_ble_eq_true rfl⟩ ⟨Nat.le_of_ble_eq_true rfl, Nat.le_of_ble_eq_true rfl⟩ dX11_way_23) (fun H locs X => ?_)
    refine lv_istore (lv' := [(4, .int r23), (0, .ref (gB E + 0)), (1, .int x1), (2, .int x2), (3, .int x3)]) C.1 C.2.1 dX11_way_26 hl (by decide) rfl (fun ls hl => ?_)
    refine lv_aload_n C.1 C.2.1 dX11_way_28 rfl (lv_at hl 1 rfl) ?_
    refine gfX11 C G X (k := 0) kd_0 1 (v := .ref (gB E + 9)) rfl rfl (by decide) k_406 rfl dX11_way_29 ?_
    refine lv_iload_n C.1 C.2.1 dX11_way_32 rfl (lv_at hl 2 rfl) ?_
    refine lv_iload_n C.1 C.2.1 dX11_way_33 rfl (lv_at hl 3 rfl) ?_
    refine lv_iload_n C.1 C.2.1 dX11_way_34 rfl (lv_at hl 4 rfl) ?_
    obtain ⟨σ35, e35, h⟩ := bnd h
    refine afV X (runV C G X q_X7_setWay k_968 k_969 k_1389 (rcX7 G X kd_9) (c_X7_setWay l E kd_9 e35) rfl hl.1 rfl (Nat.le_of_ble_eq_true rfl) ⟨Nat.le_of_ble_eq_true rfl, Nat.le_of_ble_eq_true rfl⟩ ⟨Nat.le_of_ble_eq_true rfl, Nat.le_of_ble_eq_true rfl⟩ dX11_way_35) (fun H locs X => ?_)
    refine lv_iload C.1 C.2.1 dX11_way_38 (lv_at hl 0 rfl) ?_
    refine lv_iload_n C.1 C.2.1 dX11_way_40 rfl (lv_at hl 4 rfl) ?_
    refine lv_icmp_eq (tgt := 48) C.1 C.2.1 dX11_way_41 (by decide) (fun c41 => ?_) (fun c41 => ?_)
    · replace h := ipos c41 h
      refine lv_iconst (v := 0) C.1 C.2.1 dX11_way_48 (by decide) ?_
      obtain ⟨u49, z49, h⟩ := bnd h
      rw [← Option.some.inj h]
      exact vx_ret (rtxZ C X (gb_s z49) dX11_way_49)
    · replace h := ineg c41 h
      refine lv_iconst (v := 1) C.1 C.2.1 dX11_way_44 (by decide) ?_
      refine lv_goto (tgt := 49) C.1 C.2.1 dX11_way_45 (by decide) ?_
      obtain ⟨u49, z49, h⟩ := bnd h
      rw [← Option.some.inj h]
      exact vx_ret (rtxZ C X (gb_s z49) dX11_way_49)
  · refine axV X (runXV C G X q_X11_needTwoPanes k_1288 kp_15 k_1286 (rcX11 G X kd_0) (c_X11_needTwoPanes l E hT e3) rfl hl.1 rfl (Nat.le_of_ble_eq_true rfl) ⟨Nat.le_of_ble_eq_true rfl, Nat.le_of_ble_eq_true rfl⟩ ⟨Nat.le_of_ble_eq_true rfl, Nat.le_of_ble_eq_true rfl⟩ dX11_way_3) (fun r9 H locs er X => nomatch er) (fun x9 H locs q9 ce er X hz hv hcl => ?_)
    rw [← Sum.inr.inj er] at hcl
    rw [← Option.some.inj h]
    exact xout C X T0 hz hv hcl (Nat.le_of_ble_eq_true rfl) (Nat.le_of_ble_eq_true rfl)

theorem c_X11_way (l : Launch) (E : GE) (hT : l.stackTraces = false) {σ : Mem} {x1 : Int32} {x2 : Int32} {x3 : Int32} {r : ((Int32 ⊕ Nat) × Mem)} (h : X11_way x1 x2 x3 σ = some r) : CtX l E yX11_way cX11_way 5 .boolean 14 3 [.ref (gB E + 0), .int x1, .int x2, .int x3] σ r.1 r.2 := by
  refine vx_ofW (cc := cX11_way) (maxL := 5) (ret := (some .boolean)) (by decide) rfl ?_
  intro p e s m args below meth c s₁ B hml T0 hv
  obtain ⟨rfl, G, X⟩ := start hv
  have C := cxof B hml
  have hl := lv_entry [.ref (gB E + 0), .int x1, .int x2, .int x3] (n := 5) (Nat.le_of_ble_eq_true rfl)
  rw [lg_entry_eq]
  generalize (lg_sl [.ref (gB E + 0), .int x1, .int x2, .int x3] ++ List.replicate (5 - (lg_sl [.ref (gB E + 0), .int x1, .int x2, .int x3]).length) Slot.unset).toArray = ls at hl ⊢
  exact w_X11_way C G T0 hT X hl h

set_option maxRecDepth 20000 in
theorem w_X11_far {r : (Int32 ⊕ Nat)} {σ : Mem} {x1 : Int32} {x2 : Int32} {ls : Array Slot} {H : Heap} {locs : List Loc} (C : Cx p s m args meth c cX11_far (some .int) 3 RX11) (G : Gf E s) (T0 : ∀ x ∈ c.exceptionTable.toList, False) (hT : l.stackTraces = false) (X : Hx E σ s H locs) (hl : lv_has ls 3 [(0, .ref (gB E + 0)), (1, .int x1), (2, .int x2)]) (h : X11_far σ x1 x2 = some r) : W p l e (RX 13 2) s m args below meth c H locs 0 0 (QX E below args s 2 r σ) (F0 m 0 ls []) := by
  rw [X11_far] at h
  refine lv_aload_n C.1 C.2.1 dX11_far_0 rfl (lv_at hl 0 rfl) ?_
  refine lv_iload_n C.1 C.2.1 dX11_far_1 rfl (lv_at hl 1 rfl) ?_
  rcases bndx h with ⟨r2, e2, h⟩ | ⟨x2_, e2, h⟩
  · refine axV X (runXV C G X q_X11_needPane k_1164 kp_11 k_1162 (rcX11 G X kd_0) (c_X11_needPane l E hT e2) rfl hl.1 rfl (Nat.le_of_ble_eq_true rfl) ⟨Nat.le_of_ble_eq_true rfl, Nat.le_of_ble_eq_true rfl⟩ ⟨Nat.le_of_ble_eq_true rfl, Nat.le_of_ble_eq_true rfl⟩ dX11_far_2) (fun r9 H locs er X => ?_) (fun x9 H locs q9 ce er X hz hv hcl => nomatch er)
    refine lv_aload_n C.1 C.2.1 dX11_far_5 rfl (lv_at hl 0 rfl) ?_
    refine lv_iload_n C.1 C.2.1 dX11_far_6 rfl (lv_at hl 2 rfl) ?_
    rcases bndx h with ⟨r7, e7, h⟩ | ⟨x7_, e7, h⟩
    · refine axV X (runXV C G X q_X11_needPane k_1164 kp_11 k_1162 (rcX11 G X kd_0) (c_X11_needPane l E hT e7) rfl hl.1 rfl (Nat.le_of_ble_eq_true rfl) ⟨Nat.le_of_ble_eq_true rfl, Nat.le_of_ble_eq_true rfl⟩ ⟨Nat.le_of_ble_eq_true rfl, Nat.le_of_ble_eq_true rfl⟩ dX11_far_7) (fun r9 H locs er X => ?_) (fun x9 H locs q9 ce er X hz hv hcl => nomatch er)
      refine lv_aload_n C.1 C.2.1 dX11_far_10 rfl (lv_at hl 0 rfl) ?_
      refine gfX11 C G X (k := 0) kd_0 1 (v := .ref (gB E + 9)) rfl rfl (by decide) k_406 rfl dX11_far_11 ?_
      refine lv_iload_n C.1 C.2.1 dX11_far_14 rfl (lv_at hl 1 rfl) ?_
      refine lv_iload_n C.1 C.2.1 dX11_far_15 rfl (lv_at hl 2 rfl) ?_
      obtain ⟨r16, e16, h⟩ := bnd h
      refine afI X (runV C G X q_X7_farOf k_1230 k_1231 k_1397 (rcX7 G X kd_9) (c_X7_farOf l E kd_9 e16) rfl hl.1 rfl (Nat.le_of_ble_eq_true rfl) ⟨Nat.le_of_ble_eq_true rfl, Nat.le_of_ble_eq_true rfl⟩ ⟨Nat.le_of_ble_eq_true rfl, Nat.le_of_ble_eq_true rfl⟩ dX11_far_16) (fun H locs X => ?_)
      rw [← Option.some.inj h]
      exact vx_ret (rtxI C X dX11_far_19)
    · refine axV X (runXV C G X q_X11_needPane k_1164 kp_11 k_1162 (rcX11 G X kd_0) (c_X11_needPane l E hT e7) rfl hl.1 rfl (Nat.le_of_ble_eq_true rfl) ⟨Nat.le_of_ble_eq_true rfl, Nat.le_of_ble_eq_true rfl⟩ ⟨Nat.le_of_ble_eq_true rfl, Nat.le_of_ble_eq_true rfl⟩ dX11_far_7) (fun r9 H locs er X => nomatch er) (fun x9 H locs q9 ce er X hz hv hcl => ?_)
      rw [← Sum.inr.inj er] at hcl
      rw [← Option.some.inj h]
      exact xout C X T0 hz hv hcl (Nat.le_of_ble_eq_true rfl) (Nat.le_of_ble_eq_true rfl)
  · refine axV X (runXV C G X q_X11_needPane k_1164 kp_11 k_1162 (rcX11 G X kd_0) (c_X11_needPane l E hT e2) rfl hl.1 rfl (Nat.le_of_ble_eq_true rfl) ⟨Nat.le_of_ble_eq_true rfl, Nat.le_of_ble_eq_true rfl⟩ ⟨Nat.le_of_ble_eq_true rfl, Nat.le_of_ble_eq_true rfl⟩ dX11_far_2) (fun r9 H locs er X => nomatch er) (fun x9 H locs q9 ce er X hz hv hcl => ?_)
    rw [← Sum.inr.inj er] at hcl
    rw [← Option.some.inj h]
    exact xout C X T0 hz hv hcl (Nat.le_of_ble_eq_true rfl) (Nat.le_of_ble_eq_true rfl)

theorem c_X11_far (l : Launch) (E : GE) (hT : l.stackTraces = false) {σ : Mem} {x1 : Int32} {x2 : Int32} {r : (Int32 ⊕ Nat)} (h : X11_far σ x1 x2 = some r) : CtX l E yX11_far cX11_far 3 .int 13 2 [.ref (gB E + 0), .int x1, .int x2] σ r σ := by
  refine vx_ofW (cc := cX11_far) (maxL := 3) (ret := (some .int)) (by decide) rfl ?_
  intro p e s m args below meth c s₁ B hml T0 hv
  obtain ⟨rfl, G, X⟩ := start hv
  have C := cxof B hml
  have hl := lv_entry [.ref (gB E + 0), .int x1, .int x2] (n := 3) (Nat.le_of_ble_eq_true rfl)
  rw [lg_entry_eq]
  generalize (lg_sl [.ref (gB E + 0), .int x1, .int x2] ++ List.replicate (3 - (lg_sl [.ref (gB E + 0), .int x1, .int x2]).length) Slot.unset).toArray = ls at hl ⊢
  exact w_X11_far C G T0 hT X hl h

set_option maxRecDepth 20000 in
theorem w_X0_firstAllDark_10 {r : (Int32 × Mem)} (C : Cx p s m args meth c cX0_firstAllDark (some .int) 4 RX0) (G : Gf E s) : ∀ (f : Nat) {a2 : Nat} {x3 : Int32} {σ : Mem} {ls : Array Slot} {H : Heap} {locs : List Loc}, Hx E σ s H locs → kd a2 = 3 → lv_has ls 4 [(0, .ref (gB E + 365)), (2, .ref (gB E + a2)), (3, .int x3)] → X0_firstAllDark_10 f a2 x3 σ = some r → W p l e (RM 7) s m args below meth c H locs 0 0 (QI E below args s r.1 r.2) (F0 m 10 ls []) := by
  intro f
  induction f with
  | zero =>
    intro a2 x3 σ ls H locs X hk_a2 hl h
    rw [X0_firstAllDark_10] at h
    cases h
  | succ f ih =>
    intro a2 x3 σ ls H locs X hk_a2 hl h
    rw [X0_firstAllDark_10] at h
    refine lv_iload_n C.1 C.2.1 dX0_firstAllDark_10 rfl (lv_at hl 2 rfl) ?_
    refine lv_bipush (v := 60) C.1 C.2.1 dX0_firstAllDark_11 (by decide) ?_
    refine lv_icmp_gt (tgt := 45) C.1 C.2.1 dX0_firstAllDark_13 (by decide) (fun c13 => ?_) (fun c13 => ?_)
    · replace h := ipos c13 h
      refine lv_iconst (v := -1) C.1 C.2.1 dX0_firstAllDark_45 (by decide) ?_
      rw [← Option.some.inj h]
      exact rtI C X dX0_firstAllDark_46
    · replace h := ineg c13 h
      refine lv_aload_n C.1 C.2.1 dX0_firstAllDark_16 rfl (lv_at hl 0 rfl) ?_
      refine gfX0 C G X (k := 365) kd_365 0 (v := .ref (gB E + 366)) rfl rfl (by decide) k_368 rfl dX0_firstAllDark_17 ?_
      refine gfX7 C G X (k := 366) kd_366 8 (v := .int (σ 366 8)) rfl rfl (by decide) k_230 rfl dX0_firstAllDark_20 ?_
      refine lv_if_ne (tgt := 28) C.1 C.2.1 dX0_firstAllDark_23 (by decide) (fun c23 => ?_) (fun c23 => ?_)
      · replace h := ineg c23 h
        refine lv_aload_n C.1 C.2.1 dX0_firstAllDark_28 rfl (lv_at hl 0 rfl) ?_
        refine lv_aload_n C.1 C.2.1 dX0_firstAllDark_29 rfl (lv_at hl 0 rfl) ?_
        refine gfX0 C G X (k := 365) kd_365 0 (v := .ref (gB E + 366)) rfl rfl (by decide) k_368 rfl dX0_firstAllDark_30 ?_
        refine lv_aload_n C.1 C.2.1 dX0_firstAllDark_33 rfl (lv_at hl 1 rfl) ?_
        refine lv_iconst (v := 0) C.1 C.2.1 dX0_firstAllDark_34 (by decide) ?_
        obtain ⟨r35, σ35, e35, h⟩ := bnd2 h
        refine afI (r0 := r35) (σ' := σ35) X (runV C G X q_X0_tick k_485 k_486 k_484 (rcX0 G X kd_365) (c_X0_tick l E kd_366 hk_a2 e35) rfl hl.1 rfl (Nat.le_of_ble_eq_true rfl) ⟨Nat.le_of_ble_eq_true rfl, Nat.le_of_ble_eq_true rfl⟩ ⟨Nat.le_of_ble_eq_true rfl, Nat.le_of_ble_eq_true rfl⟩ dX0_firstAllDark_35) (fun H locs X => ?_)
        refine lv_pop C.1 C.2.1 dX0_firstAllDark_38 rfl ?_
        refine lv_iinc (v := (x3 + 1)) (lv' := [(3, .int (x3 + 1)), (0, .ref (gB E + 365)), (2, .ref (gB E + a2))]) C.1 C.2.1 dX0_firstAllDark_39 hl (k := 2) rfl rfl (by decide) rfl (fun ls hl => ?_)
        refine lv_goto (tgt := 10) C.1 C.2.1 dX0_firstAllDark_42 (by decide) ?_
        exact ih X hk_a2 (lv_sub hl [1, 2, 0] rfl) h
      · replace h := ipos c23 h
        refine lv_iload_n C.1 C.2.1 dX0_firstAllDark_26 rfl (lv_at hl 2 rfl) ?_
        rw [← Option.some.inj h]
        exact rtI C X dX0_firstAllDark_27

set_option maxRecDepth 20000 in
theorem w_X0_firstAllDark {r : (Int32 × Mem)} {σ : Mem} {a1 : Nat} {a2 : Nat} {ls : Array Slot} {H : Heap} {locs : List Loc} (C : Cx p s m args meth c cX0_firstAllDark (some .int) 4 RX0) (G : Gf E s) (X : Hx E σ s H locs) (hk_a1 : kd a1 = 2) (hk_a2 : kd a2 = 3) (hl : lv_has ls 4 [(0, .ref (gB E + 365)), (1, .ref (gB E + a1)), (2, .ref (gB E + a2))]) (h : X0_firstAllDark a1 a2 σ = some r) : W p l e (RM 7) s m args below meth c H locs 0 0 (QI E below args s r.1 r.2) (F0 m 0 ls []) := by
  rw [X0_firstAllDark] at h
  refine lv_aload_n C.1 C.2.1 dX0_firstAllDark_0 rfl (lv_at hl 0 rfl) ?_
  refine gfX0 C G X (k := 365) kd_365 0 (v := .ref (gB E + 366)) rfl rfl (by decide) k_368 rfl dX0_firstAllDark_1 ?_
  refine lv_aload_n C.1 C.2.1 dX0_firstAllDark_4 rfl (lv_at hl 1 rfl) ?_
  obtain ⟨σ5, e5, h⟩ := bnd h
  refine afV X (runV C G X q_X7_copyFrom k_471 k_472 k_470 (rcX7 G X kd_366) (c_X7_copyFrom l E kd_366 hk_a1 e5) rfl hl.1 rfl (Nat.le_of_ble_eq_true rfl) ⟨Nat.le_of_ble_eq_true rfl, Nat.le_of_ble_eq_true rfl⟩ ⟨Nat.le_of_ble_eq_true rfl, Nat.le_of_ble_eq_true rfl⟩ dX0_firstAllDark_5) (fun H locs X => ?_)
  refine lv_iconst (v := 0) C.1 C.2.1 dX0_firstAllDark_8 (by decide) ?_
  refine lv_istore_n (lv' := [(3, .int (0 : Int32)), (0, .ref (gB E + 365)), (1, .ref (gB E + a1)), (2, .ref (gB E + a2))]) C.1 C.2.1 dX0_firstAllDark_9 rfl hl (by decide) rfl (fun ls hl => ?_)
  exact w_X0_firstAllDark_10 C G FU X hk_a2 (lv_sub hl [1, 3, 0] rfl) h

theorem c_X0_firstAllDark (l : Launch) (E : GE) {σ : Mem} {a1 : Nat} {a2 : Nat} (hk_a1 : kd a1 = 2) (hk_a2 : kd a2 = 3) {r : (Int32 × Mem)} (h : X0_firstAllDark a1 a2 σ = some r) : CtI l E yX0_firstAllDark cX0_firstAllDark 4 .int 7 [.ref (gB E + 365), .ref (gB E + a1), .ref (gB E + a2)] σ r.1 r.2 := by
  refine Met.ofW (cc := cX0_firstAllDark) (maxL := 4) (ret := (some .int)) (by decide) rfl ?_
  intro p e s m args below meth c s₁ B hml hv
  obtain ⟨rfl, G, X⟩ := start hv
  have C := cxof B hml
  have hl := lv_entry [.ref (gB E + 365), .ref (gB E + a1), .ref (gB E + a2)] (n := 4) (Nat.le_of_ble_eq_true rfl)
  rw [lg_entry_eq]
  generalize (lg_sl [.ref (gB E + 365), .ref (gB E + a1), .ref (gB E + a2)] ++ List.replicate (4 - (lg_sl [.ref (gB E + 365), .ref (gB E + a1), .ref (gB E + a2)]).length) Slot.unset).toArray = ls at hl ⊢
  exact w_X0_firstAllDark C G X hk_a1 hk_a2 hl h

set_option maxRecDepth 20000 in
theorem w_X11_out {r : (Int32 × Mem)} {σ : Mem} {ls : Array Slot} {H : Heap} {locs : List Loc} (C : Cx p s m args meth c cX11_out (some .int) 1 RX11) (G : Gf E s) (X : Hx E σ s H locs) (hl : lv_has ls 1 [(0, .ref (gB E + 0))]) (h : X11_out σ = some r) : W p l e (RM 8) s m args below meth c H locs 0 0 (QI E below args s r.1 r.2) (F0 m 0 ls []) := by
  rw [X11_out] at h
  refine lv_aload_n C.1 C.2.1 dX11_out_0 rfl (lv_at hl 0 rfl) ?_
  refine gfX11 C G X (k := 0) kd_0 9 (v := .ref (gB E + 365)) rfl rfl (by decide) k_414 rfl dX11_out_1 ?_
  refine lv_aload_n C.1 C.2.1 dX11_out_4 rfl (lv_at hl 0 rfl) ?_
  refine gfX11 C G X (k := 0) kd_0 1 (v := .ref (gB E + 9)) rfl rfl (by decide) k_406 rfl dX11_out_5 ?_
  refine lv_aload_n C.1 C.2.1 dX11_out_8 rfl (lv_at hl 0 rfl) ?_
  refine gfX11 C G X (k := 0) kd_0 4 (v := .ref (gB E + 72)) rfl rfl (by decide) k_409 rfl dX11_out_9 ?_
  obtain ⟨r12, σ12, e12, h⟩ := bnd2 h
  refine afI (r0 := r12) (σ' := σ12) X (runV C G X q_X0_firstAllDark k_467 k_468 k_466 (rcX0 G X kd_365) (c_X0_firstAllDark l E kd_9 kd_72 e12) rfl hl.1 rfl (Nat.le_of_ble_eq_true rfl) ⟨Nat.le_of_ble_eq_true rfl, Nat.le_of_ble_eq_true rfl⟩ ⟨Nat.le_of_ble_eq_true rfl, Nat.le_of_ble_eq_true rfl⟩ dX11_out_12) (fun H locs X => ?_)
  rw [← Option.some.inj h]
  exact rtI C X dX11_out_15

theorem c_X11_out (l : Launch) (E : GE) {σ : Mem} {r : (Int32 × Mem)} (h : X11_out σ = some r) : CtI l E yX11_out cX11_out 1 .int 8 [.ref (gB E + 0)] σ r.1 r.2 := by
  refine Met.ofW (cc := cX11_out) (maxL := 1) (ret := (some .int)) (by decide) rfl ?_
  intro p e s m args below meth c s₁ B hml hv
  obtain ⟨rfl, G, X⟩ := start hv
  have C := cxof B hml
  have hl := lv_entry [.ref (gB E + 0)] (n := 1) (Nat.le_of_ble_eq_true rfl)
  rw [lg_entry_eq]
  generalize (lg_sl [.ref (gB E + 0)] ++ List.replicate (1 - (lg_sl [.ref (gB E + 0)]).length) Slot.unset).toArray = ls at hl ⊢
  exact w_X11_out C G X hl h

set_option maxRecDepth 20000 in
theorem w_X0_firstSpoon_19 {r : (Int32 × Mem)} {rc10 : Nat → Int32 → Mem → Option (Int32 × Mem)} (C : Cx p s m args meth c cX0_firstSpoon (some .int) 5 RX0) (G : Gf E s) (hr10 : ∀ {a2 : Nat} {x3 : Int32} {σ : Mem} {ls : Array Slot} {H : Heap} {locs : List Loc}, Hx E σ s H locs → kd a2 = 3 → lv_has ls 5 [(0, .ref (gB E + 365)), (2, .ref (gB E + a2)), (3, .int x3)] → rc10 a2 x3 σ = some r → W p l e (RM 7) s m args below meth c H locs 0 0 (QI E below args s r.1 r.2) (F0 m 10 ls [])) : ∀ (f : Nat) {a2 : Nat} {x3 : Int32} {x4 : Int32} {σ : Mem} {ls : Array Slot} {H : Heap} {locs : List Loc}, Hx E σ s H locs → kd a2 = 3 → lv_has ls 5 [(0, .ref (gB E + 365)), (2, .ref (gB E + a2)), (3, .int x3), (4, .int x4)] → X0_firstSpoon_19 rc10 f a2 x3 x4 σ = some r → W p l e (RM 7) s m args below meth c H locs 0 0 (QI E below args s r.1 r.2) (F0 m 19 ls []) := by
  intro f
  induction f with
  | zero =>
    intro a2 x3 x4 σ ls H locs X hk_a2 hl h
    rw [X0_firstSpoon_19] at h
    cases h
  | succ f ih =>
    intro a2 x3 x4 σ ls H locs X hk_a2 hl h
    rw [X0_firstSpoon_19] at h
    refine lv_iload C.1 C.2.1 dX0_firstSpoon_19 (lv_at hl 3 rfl) ?_
    refine lv_aload_n C.1 C.2.1 dX0_firstSpoon_21 rfl (lv_at hl 0 rfl) ?_
    refine gfX0 C G X (k := 365) kd_365 0 (v := .ref (gB E + 366)) rfl rfl (by decide) k_368 rfl dX0_firstSpoon_22 ?_
    refine gfX7 C G X (k := 366) kd_366 0 (v := .int (σ 366 0)) rfl rfl (by decide) k_200 rfl dX0_firstSpoon_25 ?_
    refine lv_icmp_ge (tgt := 72) C.1 C.2.1 dX0_firstSpoon_28 (by decide) (fun c28 => ?_) (fun c28 => ?_)
    · replace h := ipos c28 h
      refine lv_aload_n C.1 C.2.1 dX0_firstSpoon_72 rfl (lv_at hl 0 rfl) ?_
      refine lv_aload_n C.1 C.2.1 dX0_firstSpoon_73 rfl (lv_at hl 0 rfl) ?_
      refine gfX0 C G X (k := 365) kd_365 0 (v := .ref (gB E + 366)) rfl rfl (by decide) k_368 rfl dX0_firstSpoon_74 ?_
      refine lv_aload_n C.1 C.2.1 dX0_firstSpoon_77 rfl (lv_at hl 1 rfl) ?_
      refine lv_iconst (v := 0) C.1 C.2.1 dX0_firstSpoon_78 (by decide) ?_
      obtain ⟨r79, σ79, e79, h⟩ := bnd2 h
      refine afI (r0 := r79) (σ' := σ79) X (runV C G X q_X0_tick k_485 k_486 k_484 (rcX0 G X kd_365) (c_X0_tick l E kd_366 hk_a2 e79) rfl hl.1 rfl (Nat.le_of_ble_eq_true rfl) ⟨Nat.le_of_ble_eq_true rfl, Nat.le_of_ble_eq_true rfl⟩ ⟨Nat.le_of_ble_eq_true rfl, Nat.le_of_ble_eq_true rfl⟩ dX0_firstSpoon_79) (fun H locs X => ?_)
      refine lv_pop C.1 C.2.1 dX0_firstSpoon_82 rfl ?_
      refine lv_iinc (v := (x3 + 1)) (lv' := [(3, .int (x3 + 1)), (0, .ref (gB E + 365)), (2, .ref (gB E + a2)), (4, .int x4)]) C.1 C.2.1 dX0_firstSpoon_83 hl (k := 2) rfl rfl (by decide) rfl (fun ls hl => ?_)
      refine lv_goto (tgt := 10) C.1 C.2.1 dX0_firstSpoon_86 (by decide) ?_
      exact hr10 X hk_a2 (lv_sub hl [1, 2, 0] rfl) h
    · replace h := ineg c28 h
      refine lv_aload_n C.1 C.2.1 dX0_firstSpoon_31 rfl (lv_at hl 0 rfl) ?_
      refine gfX0 C G X (k := 365) kd_365 0 (v := .ref (gB E + 366)) rfl rfl (by decide) k_368 rfl dX0_firstSpoon_32 ?_
      refine gfX7 C G X (k := 366) kd_366 10 (v := .ref (gB E + 369)) rfl rfl (by decide) k_240 rfl dX0_firstSpoon_35 ?_
      refine lv_iload C.1 C.2.1 dX0_firstSpoon_38 (lv_at hl 3 rfl) ?_
      obtain ⟨r40, e40, h⟩ := bnd h
      refine afI X (runV C G X q_X6_get k_498 k_499 k_497 (rcX6 G X kd_369) (c_X6_get l E kd_369 e40) rfl hl.1 rfl (Nat.le_of_ble_eq_true rfl) ⟨Nat.le_of_ble_eq_true rfl, Nat.le_of_ble_eq_true rfl⟩ ⟨Nat.le_of_ble_eq_true rfl, Nat.le_of_ble_eq_true rfl⟩ dX0_firstSpoon_40) (fun H locs X => ?_)
      refine lv_iconst (v := -1) C.1 C.2.1 dX0_firstSpoon_43 (by decide) ?_
      refine lv_icmp_eq (tgt := 66) C.1 C.2.1 dX0_firstSpoon_44 (by decide) (fun c44 => ?_) (fun c44 => ?_)
      · replace h := ipos c44 h
        refine lv_iinc (v := (x4 + 1)) (lv' := [(4, .int (x4 + 1)), (0, .ref (gB E + 365)), (2, .ref (gB E + a2)), (3, .int x3)]) C.1 C.2.1 dX0_firstSpoon_66 hl (k := 3) rfl rfl (by decide) rfl (fun ls hl => ?_)
        refine lv_goto (tgt := 19) C.1 C.2.1 dX0_firstSpoon_69 (by decide) ?_
        exact ih X hk_a2 (lv_sub hl [1, 2, 3, 0] rfl) h
      · replace h := ineg c44 h
        refine lv_aload_n C.1 C.2.1 dX0_firstSpoon_47 rfl (lv_at hl 0 rfl) ?_
        refine gfX0 C G X (k := 365) kd_365 0 (v := .ref (gB E + 366)) rfl rfl (by decide) k_368 rfl dX0_firstSpoon_48 ?_
        refine gfX7 C G X (k := 366) kd_366 11 (v := .ref (gB E + 371)) rfl rfl (by decide) k_244 rfl dX0_firstSpoon_51 ?_
        refine lv_iload C.1 C.2.1 dX0_firstSpoon_54 (lv_at hl 3 rfl) ?_
        obtain ⟨r56, e56, h⟩ := bnd h
        refine afI X (runV C G X q_X6_get k_498 k_499 k_497 (rcX6 G X kd_371) (c_X6_get l E kd_371 e56) rfl hl.1 rfl (Nat.le_of_ble_eq_true rfl) ⟨Nat.le_of_ble_eq_true rfl, Nat.le_of_ble_eq_true rfl⟩ ⟨Nat.le_of_ble_eq_true rfl, Nat.le_of_ble_eq_true rfl⟩ dX0_firstSpoon_56) (fun H locs X => ?_)
        refine lv_iconst (v := 3) C.1 C.2.1 dX0_firstSpoon_59 (by decide) ?_
        refine lv_icmp_lt (tgt := 66) C.1 C.2.1 dX0_firstSpoon_60 (by decide) (fun c60 => ?_) (fun c60 => ?_)
        · replace h := ipos c60 h
          refine lv_iinc (v := (x4 + 1)) (lv' := [(4, .int (x4 + 1)), (0, .ref (gB E + 365)), (2, .ref (gB E + a2)), (3, .int x3)]) C.1 C.2.1 dX0_firstSpoon_66 hl (k := 3) rfl rfl (by decide) rfl (fun ls hl => ?_)
          refine lv_goto (tgt := 19) C.1 C.2.1 dX0_firstSpoon_69 (by decide) ?_
          exact ih X hk_a2 (lv_sub hl [1, 2, 3, 0] rfl) h
        · replace h := ineg c60 h
          refine lv_iload C.1 C.2.1 dX0_firstSpoon_63 (lv_at hl 3 rfl) ?_
          rw [← Option.some.inj h]
          exact rtI C X dX0_firstSpoon_65

set_option maxRecDepth 20000 in
theorem w_X0_firstSpoon_10 {r : (Int32 × Mem)} (C : Cx p s m args meth c cX0_firstSpoon (some .int) 5 RX0) (G : Gf E s) : ∀ (f : Nat) {a2 : Nat} {x3 : Int32} {σ : Mem} {ls : Array Slot} {H : Heap} {locs : List Loc}, Hx E σ s H locs → kd a2 = 3 → lv_has ls 5 [(0, .ref (gB E + 365)), (2, .ref (gB E + a2)), (3, .int x3)] → X0_firstSpoon_10 f a2 x3 σ = some r → W p l e (RM 7) s m args below meth c H locs 0 0 (QI E below args s r.1 r.2) (F0 m 10 ls []) := by
  intro f
  induction f with
  | zero =>
    intro a2 x3 σ ls H locs X hk_a2 hl h
    rw [X0_firstSpoon_10] at h
    cases h
  | succ f ih =>
    intro a2 x3 σ ls H locs X hk_a2 hl h
    rw [X0_firstSpoon_10] at h
    refine lv_iload_n C.1 C.2.1 dX0_firstSpoon_10 rfl (lv_at hl 2 rfl) ?_
    refine lv_bipush (v := 60) C.1 C.2.1 dX0_firstSpoon_11 (by decide) ?_
    refine lv_icmp_gt (tgt := 89) C.1 C.2.1 dX0_firstSpoon_13 (by decide) (fun c13 => ?_) (fun c13 => ?_)
    · replace h := ipos c13 h
      refine lv_iconst (v := -1) C.1 C.2.1 dX0_firstSpoon_89 (by decide) ?_
      rw [← Option.some.inj h]
      exact rtI C X dX0_firstSpoon_90
    · replace h := ineg c13 h
      refine lv_iconst (v := 0) C.1 C.2.1 dX0_firstSpoon_16 (by decide) ?_
      refine lv_istore (lv' := [(4, .int (0 : Int32)), (0, .ref (gB E + 365)), (2, .ref (gB E + a2)), (3, .int x3)]) C.1 C.2.1 dX0_firstSpoon_17 hl (by decide) rfl (fun ls hl => ?_)
      exact w_X0_firstSpoon_19 C G ih FU X hk_a2 (lv_sub hl [1, 2, 3, 0] rfl) h

set_option maxRecDepth 20000 in
theorem w_X0_firstSpoon {r : (Int32 × Mem)} {σ : Mem} {a1 : Nat} {a2 : Nat} {ls : Array Slot} {H : Heap} {locs : List Loc} (C : Cx p s m args meth c cX0_firstSpoon (some .int) 5 RX0) (G : Gf E s) (X : Hx E σ s H locs) (hk_a1 : kd a1 = 2) (hk_a2 : kd a2 = 3) (hl : lv_has ls 5 [(0, .ref (gB E + 365)), (1, .ref (gB E + a1)), (2, .ref (gB E + a2))]) (h : X0_firstSpoon a1 a2 σ = some r) : W p l e (RM 7) s m args below meth c H locs 0 0 (QI E below args s r.1 r.2) (F0 m 0 ls []) := by
  rw [X0_firstSpoon] at h
  refine lv_aload_n C.1 C.2.1 dX0_firstSpoon_0 rfl (lv_at hl 0 rfl) ?_
  refine gfX0 C G X (k := 365) kd_365 0 (v := .ref (gB E + 366)) rfl rfl (by decide) k_368 rfl dX0_firstSpoon_1 ?_
  refine lv_aload_n C.1 C.2.1 dX0_firstSpoon_4 rfl (lv_at hl 1 rfl) ?_
  obtain ⟨σ5, e5, h⟩ := bnd h
  refine afV X (runV C G X q_X7_copyFrom k_471 k_472 k_470 (rcX7 G X kd_366) (c_X7_copyFrom l E kd_366 hk_a1 e5) rfl hl.1 rfl (Nat.le_of_ble_eq_true rfl) ⟨Nat.le_of_ble_eq_true rfl, Nat.le_of_ble_eq_true rfl⟩ ⟨Nat.le_of_ble_eq_true rfl, Nat.le_of_ble_eq_true rfl⟩ dX0_firstSpoon_5) (fun H locs X => ?_)
  refine lv_iconst (v := 0) C.1 C.2.1 dX0_firstSpoon_8 (by decide) ?_
  refine lv_istore_n (lv' := [(3, .int (0 : Int32)), (0, .ref (gB E + 365)), (1, .ref (gB E + a1)), (2, .ref (gB E + a2))]) C.1 C.2.1 dX0_firstSpoon_9 rfl hl (by decide) rfl (fun ls hl => ?_)
  exact w_X0_firstSpoon_10 C G FU X hk_a2 (lv_sub hl [1, 3, 0] rfl) h

theorem c_X0_firstSpoon (l : Launch) (E : GE) {σ : Mem} {a1 : Nat} {a2 : Nat} (hk_a1 : kd a1 = 2) (hk_a2 : kd a2 = 3) {r : (Int32 × Mem)} (h : X0_firstSpoon a1 a2 σ = some r) : CtI l E yX0_firstSpoon cX0_firstSpoon 5 .int 7 [.ref (gB E + 365), .ref (gB E + a1), .ref (gB E + a2)] σ r.1 r.2 := by
  refine Met.ofW (cc := cX0_firstSpoon) (maxL := 5) (ret := (some .int)) (by decide) rfl ?_
  intro p e s m args below meth c s₁ B hml hv
  obtain ⟨rfl, G, X⟩ := start hv
  have C := cxof B hml
  have hl := lv_entry [.ref (gB E + 365), .ref (gB E + a1), .ref (gB E + a2)] (n := 5) (Nat.le_of_ble_eq_true rfl)
  rw [lg_entry_eq]
  generalize (lg_sl [.ref (gB E + 365), .ref (gB E + a1), .ref (gB E + a2)] ++ List.replicate (5 - (lg_sl [.ref (gB E + 365), .ref (gB E + a1), .ref (gB E + a2)]).length) Slot.unset).toArray = ls at hl ⊢
  exact w_X0_firstSpoon C G X hk_a1 hk_a2 hl h

set_option maxRecDepth 20000 in
theorem w_X11_spoon {r : (Int32 × Mem)} {σ : Mem} {ls : Array Slot} {H : Heap} {locs : List Loc} (C : Cx p s m args meth c cX11_spoon (some .int) 1 RX11) (G : Gf E s) (X : Hx E σ s H locs) (hl : lv_has ls 1 [(0, .ref (gB E + 0))]) (h : X11_spoon σ = some r) : W p l e (RM 8) s m args below meth c H locs 0 0 (QI E below args s r.1 r.2) (F0 m 0 ls []) := by
  rw [X11_spoon] at h
  refine lv_aload_n C.1 C.2.1 dX11_spoon_0 rfl (lv_at hl 0 rfl) ?_
  refine gfX11 C G X (k := 0) kd_0 9 (v := .ref (gB E + 365)) rfl rfl (by decide) k_414 rfl dX11_spoon_1 ?_
  refine lv_aload_n C.1 C.2.1 dX11_spoon_4 rfl (lv_at hl 0 rfl) ?_
  refine gfX11 C G X (k := 0) kd_0 1 (v := .ref (gB E + 9)) rfl rfl (by decide) k_406 rfl dX11_spoon_5 ?_
  refine lv_aload_n C.1 C.2.1 dX11_spoon_8 rfl (lv_at hl 0 rfl) ?_
  refine gfX11 C G X (k := 0) kd_0 4 (v := .ref (gB E + 72)) rfl rfl (by decide) k_409 rfl dX11_spoon_9 ?_
  obtain ⟨r12, σ12, e12, h⟩ := bnd2 h
  refine afI (r0 := r12) (σ' := σ12) X (runV C G X q_X0_firstSpoon k_610 k_611 k_609 (rcX0 G X kd_365) (c_X0_firstSpoon l E kd_9 kd_72 e12) rfl hl.1 rfl (Nat.le_of_ble_eq_true rfl) ⟨Nat.le_of_ble_eq_true rfl, Nat.le_of_ble_eq_true rfl⟩ ⟨Nat.le_of_ble_eq_true rfl, Nat.le_of_ble_eq_true rfl⟩ dX11_spoon_12) (fun H locs X => ?_)
  rw [← Option.some.inj h]
  exact rtI C X dX11_spoon_15

theorem c_X11_spoon (l : Launch) (E : GE) {σ : Mem} {r : (Int32 × Mem)} (h : X11_spoon σ = some r) : CtI l E yX11_spoon cX11_spoon 1 .int 8 [.ref (gB E + 0)] σ r.1 r.2 := by
  refine Met.ofW (cc := cX11_spoon) (maxL := 1) (ret := (some .int)) (by decide) rfl ?_
  intro p e s m args below meth c s₁ B hml hv
  obtain ⟨rfl, G, X⟩ := start hv
  have C := cxof B hml
  have hl := lv_entry [.ref (gB E + 0)] (n := 1) (Nat.le_of_ble_eq_true rfl)
  rw [lg_entry_eq]
  generalize (lg_sl [.ref (gB E + 0)] ++ List.replicate (1 - (lg_sl [.ref (gB E + 0)]).length) Slot.unset).toArray = ls at hl ⊢
  exact w_X11_spoon C G X hl h

set_option maxRecDepth 20000 in
theorem w_X1_neverLit_5 {r : (Int32 × Mem)} (C : Cx p s m args meth c cX1_neverLit (some .int) 5 RX1) (G : Gf E s) : ∀ (f : Nat) {a1 : Nat} {a2 : Nat} {x3 : Int32} {x4 : Int32} {σ : Mem} {ls : Array Slot} {H : Heap} {locs : List Loc}, Hx E σ s H locs → kd a1 = 2 → kd a2 = 3 → lv_has ls 5 [(0, .ref (gB E + 396)), (1, .ref (gB E + a1)), (2, .ref (gB E + a2)), (3, .int x3), (4, .int x4)] → X1_neverLit_5 f a1 a2 x3 x4 σ = some r → W p l e (RM 6) s m args below meth c H locs 0 0 (QI E below args s r.1 r.2) (F0 m 5 ls []) := by
  intro f
  induction f with
  | zero =>
    intro a1 a2 x3 x4 σ ls H locs X hk_a1 hk_a2 hl h
    rw [X1_neverLit_5] at h
    cases h
  | succ f ih =>
    intro a1 a2 x3 x4 σ ls H locs X hk_a1 hk_a2 hl h
    rw [X1_neverLit_5] at h
    refine lv_iload C.1 C.2.1 dX1_neverLit_5 (lv_at hl 4 rfl) ?_
    refine lv_aload_n C.1 C.2.1 dX1_neverLit_7 rfl (lv_at hl 1 rfl) ?_
    refine gfX7 C G X (k := a1) hk_a1 0 (v := .int (σ a1 0)) rfl rfl (by decide) k_202 rfl dX1_neverLit_8 ?_
    refine lv_icmp_ge (tgt := 48) C.1 C.2.1 dX1_neverLit_11 (by decide) (fun c11 => ?_) (fun c11 => ?_)
    · replace h := ipos c11 h
      refine lv_iload_n C.1 C.2.1 dX1_neverLit_48 rfl (lv_at hl 3 rfl) ?_
      rw [← Option.some.inj h]
      exact rtI C X dX1_neverLit_49
    · replace h := ineg c11 h
      refine lv_aload_n C.1 C.2.1 dX1_neverLit_14 rfl (lv_at hl 1 rfl) ?_
      refine lv_iload C.1 C.2.1 dX1_neverLit_15 (lv_at hl 4 rfl) ?_
      obtain ⟨r17, e17, h⟩ := bnd h
      refine afI X (runV C G X q_X7_isBurning k_538 k_539 k_621 (rcX7 G X hk_a1) (c_X7_isBurning l E hk_a1 e17) rfl hl.1 rfl (Nat.le_of_ble_eq_true rfl) ⟨Nat.le_of_ble_eq_true rfl, Nat.le_of_ble_eq_true rfl⟩ ⟨Nat.le_of_ble_eq_true rfl, Nat.le_of_ble_eq_true rfl⟩ dX1_neverLit_17) (fun H locs X => ?_)
      refine lv_if_ne (tgt := 42) C.1 C.2.1 dX1_neverLit_20 (by decide) (fun c20 => ?_) (fun c20 => ?_)
      · replace h := ineg c20 h
        refine lv_iinc (v := (x4 + 1)) (lv' := [(4, .int (x4 + 1)), (0, .ref (gB E + 396)), (1, .ref (gB E + a1)), (2, .ref (gB E + a2)), (3, .int x3)]) C.1 C.2.1 dX1_neverLit_42 hl (k := 4) rfl rfl (by decide) rfl (fun ls hl => ?_)
        refine lv_goto (tgt := 5) C.1 C.2.1 dX1_neverLit_45 (by decide) ?_
        exact ih X hk_a1 hk_a2 (lv_sub hl [1, 2, 3, 4, 0] rfl) h
      · replace h := ipos c20 h
        refine lv_aload_n C.1 C.2.1 dX1_neverLit_23 rfl (lv_at hl 0 rfl) ?_
        refine lv_aload_n C.1 C.2.1 dX1_neverLit_24 rfl (lv_at hl 1 rfl) ?_
        refine lv_aload_n C.1 C.2.1 dX1_neverLit_25 rfl (lv_at hl 2 rfl) ?_
        refine lv_iload C.1 C.2.1 dX1_neverLit_26 (lv_at hl 4 rfl) ?_
        obtain ⟨r28, σ28, e28, h⟩ := bnd2 h
        refine afI (r0 := r28) (σ' := σ28) X (runV C G X q_X1_canLight k_623 k_624 k_622 (rcX1 G X kd_396) (c_X1_canLight l E hk_a1 hk_a2 e28) rfl hl.1 rfl (Nat.le_of_ble_eq_true rfl) ⟨Nat.le_of_ble_eq_true rfl, Nat.le_of_ble_eq_true rfl⟩ ⟨Nat.le_of_ble_eq_true rfl, Nat.le_of_ble_eq_true rfl⟩ dX1_neverLit_28) (fun H locs X => ?_)
        refine lv_if_ne (tgt := 42) C.1 C.2.1 dX1_neverLit_31 (by decide) (fun c31 => ?_) (fun c31 => ?_)
        · replace h := ineg c31 h
          refine lv_iinc (v := (x4 + 1)) (lv' := [(4, .int (x4 + 1)), (0, .ref (gB E + 396)), (1, .ref (gB E + a1)), (2, .ref (gB E + a2)), (3, .int x3)]) C.1 C.2.1 dX1_neverLit_42 hl (k := 4) rfl rfl (by decide) rfl (fun ls hl => ?_)
          refine lv_goto (tgt := 5) C.1 C.2.1 dX1_neverLit_45 (by decide) ?_
          exact ih X hk_a1 hk_a2 (lv_sub hl [1, 2, 3, 4, 0] rfl) h
        · replace h := ipos c31 h
          refine lv_iload_n C.1 C.2.1 dX1_neverLit_34 rfl (lv_at hl 3 rfl) ?_
          refine lv_iload C.1 C.2.1 dX1_neverLit_35 (lv_at hl 4 rfl) ?_
          obtain ⟨r37, e37, h⟩ := bnd h
          refine afI X (runN C G X q_X11_bit k_506 nw_11 (c_X11_bit l E e37) rfl hl.1 rfl (Nat.le_of_ble_eq_true rfl) ⟨Nat.le_of_ble_eq_true rfl, Nat.le_of_ble_eq_true rfl⟩ ⟨Nat.le_of_ble_eq_true rfl, Nat.le_of_ble_eq_true rfl⟩ dX1_neverLit_37) (fun H locs X => ?_)
          refine lv_ior C.1 C.2.1 dX1_neverLit_40 ?_
          refine lv_istore_n (lv' := [(3, .int (x3 ||| r37)), (0, .ref (gB E + 396)), (1, .ref (gB E + a1)), (2, .ref (gB E + a2)), (4, .int x4)]) C.1 C.2.1 dX1_neverLit_41 rfl hl (by decide) rfl (fun ls hl => ?_)
          refine lv_iinc (v := (x4 + 1)) (lv' := [(4, .int (x4 + 1)), (3, .int (x3 ||| r37)), (0, .ref (gB E + 396)), (1, .ref (gB E + a1)), (2, .ref (gB E + a2))]) C.1 C.2.1 dX1_neverLit_42 hl (k := 4) rfl rfl (by decide) rfl (fun ls hl => ?_)
          refine lv_goto (tgt := 5) C.1 C.2.1 dX1_neverLit_45 (by decide) ?_
          exact ih X hk_a1 hk_a2 (lv_sub hl [2, 3, 4, 1, 0] rfl) h

set_option maxRecDepth 20000 in
theorem w_X1_neverLit {r : (Int32 × Mem)} {σ : Mem} {a1 : Nat} {a2 : Nat} {ls : Array Slot} {H : Heap} {locs : List Loc} (C : Cx p s m args meth c cX1_neverLit (some .int) 5 RX1) (G : Gf E s) (X : Hx E σ s H locs) (hk_a1 : kd a1 = 2) (hk_a2 : kd a2 = 3) (hl : lv_has ls 5 [(0, .ref (gB E + 396)), (1, .ref (gB E + a1)), (2, .ref (gB E + a2))]) (h : X1_neverLit a1 a2 σ = some r) : W p l e (RM 6) s m args below meth c H locs 0 0 (QI E below args s r.1 r.2) (F0 m 0 ls []) := by
  rw [X1_neverLit] at h
  refine lv_iconst (v := 0) C.1 C.2.1 dX1_neverLit_0 (by decide) ?_
  refine lv_istore_n (lv' := [(3, .int (0 : Int32)), (0, .ref (gB E + 396)), (1, .ref (gB E + a1)), (2, .ref (gB E + a2))]) C.1 C.2.1 dX1_neverLit_1 rfl hl (by decide) rfl (fun ls hl => ?_)
  refine lv_iconst (v := 0) C.1 C.2.1 dX1_neverLit_2 (by decide) ?_
  refine lv_istore (lv' := [(4, .int (0 : Int32)), (3, .int (0 : Int32)), (0, .ref (gB E + 396)), (1, .ref (gB E + a1)), (2, .ref (gB E + a2))]) C.1 C.2.1 dX1_neverLit_3 hl (by decide) rfl (fun ls hl => ?_)
  exact w_X1_neverLit_5 C G FU X hk_a1 hk_a2 (lv_sub hl [2, 3, 4, 1, 0] rfl) h

theorem c_X1_neverLit (l : Launch) (E : GE) {σ : Mem} {a1 : Nat} {a2 : Nat} (hk_a1 : kd a1 = 2) (hk_a2 : kd a2 = 3) {r : (Int32 × Mem)} (h : X1_neverLit a1 a2 σ = some r) : CtI l E yX1_neverLit cX1_neverLit 5 .int 6 [.ref (gB E + 396), .ref (gB E + a1), .ref (gB E + a2)] σ r.1 r.2 := by
  refine Met.ofW (cc := cX1_neverLit) (maxL := 5) (ret := (some .int)) (by decide) rfl ?_
  intro p e s m args below meth c s₁ B hml hv
  obtain ⟨rfl, G, X⟩ := start hv
  have C := cxof B hml
  have hl := lv_entry [.ref (gB E + 396), .ref (gB E + a1), .ref (gB E + a2)] (n := 5) (Nat.le_of_ble_eq_true rfl)
  rw [lg_entry_eq]
  generalize (lg_sl [.ref (gB E + 396), .ref (gB E + a1), .ref (gB E + a2)] ++ List.replicate (5 - (lg_sl [.ref (gB E + 396), .ref (gB E + a1), .ref (gB E + a2)]).length) Slot.unset).toArray = ls at hl ⊢
  exact w_X1_neverLit C G X hk_a1 hk_a2 hl h

set_option maxRecDepth 20000 in
theorem w_X11_never {r : (Int32 × Mem)} {σ : Mem} {ls : Array Slot} {H : Heap} {locs : List Loc} (C : Cx p s m args meth c cX11_never (some .int) 1 RX11) (G : Gf E s) (X : Hx E σ s H locs) (hl : lv_has ls 1 [(0, .ref (gB E + 0))]) (h : X11_never σ = some r) : W p l e (RM 7) s m args below meth c H locs 0 0 (QI E below args s r.1 r.2) (F0 m 0 ls []) := by
  rw [X11_never] at h
  refine lv_aload_n C.1 C.2.1 dX11_never_0 rfl (lv_at hl 0 rfl) ?_
  refine gfX11 C G X (k := 0) kd_0 11 (v := .ref (gB E + 396)) rfl rfl (by decide) k_416 rfl dX11_never_1 ?_
  refine lv_aload_n C.1 C.2.1 dX11_never_4 rfl (lv_at hl 0 rfl) ?_
  refine gfX11 C G X (k := 0) kd_0 1 (v := .ref (gB E + 9)) rfl rfl (by decide) k_406 rfl dX11_never_5 ?_
  refine lv_aload_n C.1 C.2.1 dX11_never_8 rfl (lv_at hl 0 rfl) ?_
  refine gfX11 C G X (k := 0) kd_0 4 (v := .ref (gB E + 72)) rfl rfl (by decide) k_409 rfl dX11_never_9 ?_
  obtain ⟨r12, σ12, e12, h⟩ := bnd2 h
  refine afI (r0 := r12) (σ' := σ12) X (runV C G X q_X1_neverLit k_618 k_619 k_617 (rcX1 G X kd_396) (c_X1_neverLit l E kd_9 kd_72 e12) rfl hl.1 rfl (Nat.le_of_ble_eq_true rfl) ⟨Nat.le_of_ble_eq_true rfl, Nat.le_of_ble_eq_true rfl⟩ ⟨Nat.le_of_ble_eq_true rfl, Nat.le_of_ble_eq_true rfl⟩ dX11_never_12) (fun H locs X => ?_)
  rw [← Option.some.inj h]
  exact rtI C X dX11_never_15

theorem c_X11_never (l : Launch) (E : GE) {σ : Mem} {r : (Int32 × Mem)} (h : X11_never σ = some r) : CtI l E yX11_never cX11_never 1 .int 7 [.ref (gB E + 0)] σ r.1 r.2 := by
  refine Met.ofW (cc := cX11_never) (maxL := 1) (ret := (some .int)) (by decide) rfl ?_
  intro p e s m args below meth c s₁ B hml hv
  obtain ⟨rfl, G, X⟩ := start hv
  have C := cxof B hml
  have hl := lv_entry [.ref (gB E + 0)] (n := 1) (Nat.le_of_ble_eq_true rfl)
  rw [lg_entry_eq]
  generalize (lg_sl [.ref (gB E + 0)] ++ List.replicate (1 - (lg_sl [.ref (gB E + 0)]).length) Slot.unset).toArray = ls at hl ⊢
  exact w_X11_never C G X hl h

set_option maxRecDepth 20000 in
theorem w_X10_byteAt {r : Int32} {σ : Mem} {x1 : Int32} {ls : Array Slot} {H : Heap} {locs : List Loc} (C : Cx p s m args meth c cX10_byteAt (some .int) 2 RX10) (G : Gf E s) (X : Hx E σ s H locs) (hl : lv_has ls 2 [(0, .ref (gB E + 1)), (1, .int x1)]) (h : X10_byteAt σ x1 = some r) : W p l e (RM 2) s m args below meth c H locs 0 0 (QI E below args s r σ) (F0 m 0 ls []) := by
  rw [X10_byteAt] at h
  refine lv_aload_n C.1 C.2.1 dX10_byteAt_0 rfl (lv_at hl 0 rfl) ?_
  refine gfX10 C G X (k := 1) kd_1 0 (v := .ref (gB E + 2)) rfl rfl (by decide) k_164 rfl dX10_byteAt_1 ?_
  refine lv_iload_n C.1 C.2.1 dX10_byteAt_4 rfl (lv_at hl 1 rfl) ?_
  obtain ⟨r5, e5, h⟩ := bnd h
  refine afI X (runV C G X q_X6_get k_498 k_499 k_815 (rcX6 G X kd_2) (c_X6_get l E kd_2 e5) rfl hl.1 rfl (Nat.le_of_ble_eq_true rfl) ⟨Nat.le_of_ble_eq_true rfl, Nat.le_of_ble_eq_true rfl⟩ ⟨Nat.le_of_ble_eq_true rfl, Nat.le_of_ble_eq_true rfl⟩ dX10_byteAt_5) (fun H locs X => ?_)
  rw [← Option.some.inj h]
  exact rtI C X dX10_byteAt_8

theorem c_X10_byteAt (l : Launch) (E : GE) {σ : Mem} {x1 : Int32} {r : Int32} (h : X10_byteAt σ x1 = some r) : CtI l E yX10_byteAt cX10_byteAt 2 .int 2 [.ref (gB E + 1), .int x1] σ r σ := by
  refine Met.ofW (cc := cX10_byteAt) (maxL := 2) (ret := (some .int)) (by decide) rfl ?_
  intro p e s m args below meth c s₁ B hml hv
  obtain ⟨rfl, G, X⟩ := start hv
  have C := cxof B hml
  have hl := lv_entry [.ref (gB E + 1), .int x1] (n := 2) (Nat.le_of_ble_eq_true rfl)
  rw [lg_entry_eq]
  generalize (lg_sl [.ref (gB E + 1), .int x1] ++ List.replicate (2 - (lg_sl [.ref (gB E + 1), .int x1]).length) Slot.unset).toArray = ls at hl ⊢
  exact w_X10_byteAt C G X hl h

set_option maxRecDepth 20000 in
theorem w_X5_toldPanes_14 {r : Int32} {σ : Mem} (C : Cx p s m args meth c cX5_toldPanes (some .int) 7 RX5) (G : Gf E s) : ∀ (f : Nat) {a1 : Nat} {x3 : Int32} {x4 : Int32} {x5 : Int32} {ls : Array Slot} {H : Heap} {locs : List Loc}, Hx E σ s H locs → kd a1 = 2 → lv_has ls 7 [(1, .ref (gB E + a1)), (2, .ref (gB E + 1)), (3, .int x3), (4, .int x4), (5, .int x5)] → X5_toldPanes_14 σ f a1 x3 x4 x5 = some r → W p l e (RM 3) s m args below meth c H locs 0 0 (QI E below args s r σ) (F0 m 14 ls []) := by
  intro f
  induction f with
  | zero =>
    intro a1 x3 x4 x5 ls H locs X hk_a1 hl h
    rw [X5_toldPanes_14] at h
    cases h
  | succ f ih =>
    intro a1 x3 x4 x5 ls H locs X hk_a1 hl h
    rw [X5_toldPanes_14] at h
    refine lv_iload C.1 C.2.1 dX5_toldPanes_14 (lv_at hl 4 rfl) ?_
    refine lv_iload_n C.1 C.2.1 dX5_toldPanes_16 rfl (lv_at hl 2 rfl) ?_
    refine lv_icmp_ge (tgt := 65) C.1 C.2.1 dX5_toldPanes_17 (by decide) (fun c17 => ?_) (fun c17 => ?_)
    · replace h := ipos c17 h
      refine lv_iload C.1 C.2.1 dX5_toldPanes_65 (lv_at hl 3 rfl) ?_
      rw [← Option.some.inj h]
      exact rtI C X dX5_toldPanes_67
    · replace h := ineg c17 h
      refine lv_aload_n C.1 C.2.1 dX5_toldPanes_20 rfl (lv_at hl 1 rfl) ?_
      refine lv_iload C.1 C.2.1 dX5_toldPanes_21 (lv_at hl 4 rfl) ?_
      obtain ⟨r23, e23, h⟩ := bnd h
      refine afI X (runV C G X q_X10_byteAt k_1411 k_1412 k_1410 (rcX10 G X kd_1) (c_X10_byteAt l E e23) rfl hl.1 rfl (Nat.le_of_ble_eq_true rfl) ⟨Nat.le_of_ble_eq_true rfl, Nat.le_of_ble_eq_true rfl⟩ ⟨Nat.le_of_ble_eq_true rfl, Nat.le_of_ble_eq_true rfl⟩ dX5_toldPanes_23) (fun H locs X => ?_)
      refine lv_istore (lv' := [(6, .int r23), (1, .ref (gB E + a1)), (2, .ref (gB E + 1)), (3, .int x3), (4, .int x4), (5, .int x5)]) C.1 C.2.1 dX5_toldPanes_26 hl (by decide) rfl (fun ls hl => ?_)
      refine lv_iload C.1 C.2.1 dX5_toldPanes_28 (lv_at hl 0 rfl) ?_
      refine lv_aload_n C.1 C.2.1 dX5_toldPanes_30 rfl (lv_at hl 1 rfl) ?_
      refine gfX7 C G X (k := a1) hk_a1 0 (v := .int (σ a1 0)) rfl rfl (by decide) k_199 rfl dX5_toldPanes_31 ?_
      refine lv_icmp_ge (tgt := 47) C.1 C.2.1 dX5_toldPanes_34 (by decide) (fun c34 => ?_) (fun c34 => ?_)
      · replace h := ipos c34 h
        refine lv_iconst (v := -1) C.1 C.2.1 dX5_toldPanes_47 (by decide) ?_
        rw [← Option.some.inj h]
        exact rtI C X dX5_toldPanes_48
      · replace h := ineg c34 h
        refine lv_iload C.1 C.2.1 dX5_toldPanes_37 (lv_at hl 4 rfl) ?_
        refine lv_iload C.1 C.2.1 dX5_toldPanes_39 (lv_at hl 0 rfl) ?_
        obtain ⟨r41, e41, h⟩ := bnd h
        refine afI X (runN C G X q_X11_hasBit k_509 nw_13 (c_X11_hasBit l E e41) rfl hl.1 rfl (Nat.le_of_ble_eq_true rfl) ⟨Nat.le_of_ble_eq_true rfl, Nat.le_of_ble_eq_true rfl⟩ ⟨Nat.le_of_ble_eq_true rfl, Nat.le_of_ble_eq_true rfl⟩ dX5_toldPanes_41) (fun H locs X => ?_)
        refine lv_if_eq (tgt := 49) C.1 C.2.1 dX5_toldPanes_44 (by decide) (fun c44 => ?_) (fun c44 => ?_)
        · replace h := ipos c44 h
          refine lv_iload C.1 C.2.1 dX5_toldPanes_49 (lv_at hl 4 rfl) ?_
          refine lv_iload C.1 C.2.1 dX5_toldPanes_51 (lv_at hl 0 rfl) ?_
          obtain ⟨r53, e53, h⟩ := bnd h
          refine afI X (runN C G X q_X11_bit k_506 nw_12 (c_X11_bit l E e53) rfl hl.1 rfl (Nat.le_of_ble_eq_true rfl) ⟨Nat.le_of_ble_eq_true rfl, Nat.le_of_ble_eq_true rfl⟩ ⟨Nat.le_of_ble_eq_true rfl, Nat.le_of_ble_eq_true rfl⟩ dX5_toldPanes_53) (fun H locs X => ?_)
          refine lv_ior C.1 C.2.1 dX5_toldPanes_56 ?_
          refine lv_istore (lv' := [(4, .int (x4 ||| r53)), (6, .int r23), (1, .ref (gB E + a1)), (2, .ref (gB E + 1)), (3, .int x3), (5, .int x5)]) C.1 C.2.1 dX5_toldPanes_57 hl (by decide) rfl (fun ls hl => ?_)
          refine lv_iinc (v := (x5 + 1)) (lv' := [(5, .int (x5 + 1)), (4, .int (x4 ||| r53)), (6, .int r23), (1, .ref (gB E + a1)), (2, .ref (gB E + 1)), (3, .int x3)]) C.1 C.2.1 dX5_toldPanes_59 hl (k := 5) rfl rfl (by decide) rfl (fun ls hl => ?_)
          refine lv_goto (tgt := 14) C.1 C.2.1 dX5_toldPanes_62 (by decide) ?_
          exact ih X hk_a1 (lv_sub hl [3, 4, 5, 1, 0] rfl) h
        · replace h := ineg c44 h
          refine lv_iconst (v := -1) C.1 C.2.1 dX5_toldPanes_47 (by decide) ?_
          rw [← Option.some.inj h]
          exact rtI C X dX5_toldPanes_48

set_option maxRecDepth 20000 in
theorem w_X5_toldPanes {r : Int32} {σ : Mem} {a1 : Nat} {x3 : Int32} {ls : Array Slot} {H : Heap} {locs : List Loc} (C : Cx p s m args meth c cX5_toldPanes (some .int) 7 RX5) (G : Gf E s) (X : Hx E σ s H locs) (hk_a1 : kd a1 = 2) (hl : lv_has ls 7 [(0, .ref (gB E + 387)), (1, .ref (gB E + a1)), (2, .ref (gB E + 1)), (3, .int x3)]) (h : X5_toldPanes σ a1 x3 = some r) : W p l e (RM 3) s m args below meth c H locs 0 0 (QI E below args s r σ) (F0 m 0 ls []) := by
  rw [X5_toldPanes] at h
  refine lv_iload_n C.1 C.2.1 dX5_toldPanes_0 rfl (lv_at hl 3 rfl) ?_
  refine lv_bipush (v := 8) C.1 C.2.1 dX5_toldPanes_1 (by decide) ?_
  refine lv_icmp_le (tgt := 8) C.1 C.2.1 dX5_toldPanes_3 (by decide) (fun c3 => ?_) (fun c3 => ?_)
  · replace h := ipos c3 h
    refine lv_iconst (v := 0) C.1 C.2.1 dX5_toldPanes_8 (by decide) ?_
    refine lv_istore (lv' := [(4, .int (0 : Int32)), (0, .ref (gB E + 387)), (1, .ref (gB E + a1)), (2, .ref (gB E + 1)), (3, .int x3)]) C.1 C.2.1 dX5_toldPanes_9 hl (by decide) rfl (fun ls hl => ?_)
    refine lv_iconst (v := 0) C.1 C.2.1 dX5_toldPanes_11 (by decide) ?_
    refine lv_istore (lv' := [(5, .int (0 : Int32)), (4, .int (0 : Int32)), (0, .ref (gB E + 387)), (1, .ref (gB E + a1)), (2, .ref (gB E + 1)), (3, .int x3)]) C.1 C.2.1 dX5_toldPanes_12 hl (by decide) rfl (fun ls hl => ?_)
    exact w_X5_toldPanes_14 C G FU X hk_a1 (lv_sub hl [3, 4, 5, 1, 0] rfl) h
  · replace h := ineg c3 h
    refine lv_iconst (v := -1) C.1 C.2.1 dX5_toldPanes_6 (by decide) ?_
    rw [← Option.some.inj h]
    exact rtI C X dX5_toldPanes_7

theorem c_X5_toldPanes (l : Launch) (E : GE) {σ : Mem} {a1 : Nat} {x3 : Int32} (hk_a1 : kd a1 = 2) {r : Int32} (h : X5_toldPanes σ a1 x3 = some r) : CtI l E yX5_toldPanes cX5_toldPanes 7 .int 3 [.ref (gB E + 387), .ref (gB E + a1), .ref (gB E + 1), .int x3] σ r σ := by
  refine Met.ofW (cc := cX5_toldPanes) (maxL := 7) (ret := (some .int)) (by decide) rfl ?_
  intro p e s m args below meth c s₁ B hml hv
  obtain ⟨rfl, G, X⟩ := start hv
  have C := cxof B hml
  have hl := lv_entry [.ref (gB E + 387), .ref (gB E + a1), .ref (gB E + 1), .int x3] (n := 7) (Nat.le_of_ble_eq_true rfl)
  rw [lg_entry_eq]
  generalize (lg_sl [.ref (gB E + 387), .ref (gB E + a1), .ref (gB E + 1), .int x3] ++ List.replicate (7 - (lg_sl [.ref (gB E + 387), .ref (gB E + a1), .ref (gB E + 1), .int x3]).length) Slot.unset).toArray = ls at hl ⊢
  exact w_X5_toldPanes C G X hk_a1 hl h

set_option maxRecDepth 20000 in
theorem w_X5_measure_12 {r : Mem} {rc2 : Nat → Int32 → Mem → Option Mem} (C : Cx p s m args meth c cX5_measure none 4 RX5) (G : Gf E s) (hr2 : ∀ {a1 : Nat} {x2 : Int32} {σ : Mem} {ls : Array Slot} {H : Heap} {locs : List Loc}, Hx E σ s H locs → kd a1 = 2 → lv_has ls 4 [(0, .ref (gB E + 387)), (1, .ref (gB E + a1)), (2, .int x2)] → rc2 a1 x2 σ = some r → W p l e (RM 4) s m args below meth c H locs 0 0 (QV E below args s r) (F0 m 2 ls [])) : ∀ (f : Nat) {a1 : Nat} {x2 : Int32} {x3 : Int32} {σ : Mem} {ls : Array Slot} {H : Heap} {locs : List Loc}, Hx E σ s H locs → kd a1 = 2 → lv_has ls 4 [(0, .ref (gB E + 387)), (1, .ref (gB E + a1)), (2, .int x2), (3, .int x3)] → X5_measure_12 rc2 f a1 x2 x3 σ = some r → W p l e (RM 4) s m args below meth c H locs 0 0 (QV E below args s r) (F0 m 12 ls []) := by
  intro f
  induction f with
  | zero =>
    intro a1 x2 x3 σ ls H locs X hk_a1 hl h
    rw [X5_measure_12] at h
    cases h
  | succ f ih =>
    intro a1 x2 x3 σ ls H locs X hk_a1 hl h
    rw [X5_measure_12] at h
    refine lv_iload_n C.1 C.2.1 dX5_measure_12 rfl (lv_at hl 3 rfl) ?_
    refine lv_aload_n C.1 C.2.1 dX5_measure_13 rfl (lv_at hl 1 rfl) ?_
    refine gfX7 C G X (k := a1) hk_a1 0 (v := .int (σ a1 0)) rfl rfl (by decide) k_199 rfl dX5_measure_14 ?_
    refine lv_icmp_ge (tgt := 45) C.1 C.2.1 dX5_measure_17 (by decide) (fun c17 => ?_) (fun c17 => ?_)
    · replace h := ipos c17 h
      refine lv_iinc (v := (x2 + 1)) (lv' := [(2, .int (x2 + 1)), (0, .ref (gB E + 387)), (1, .ref (gB E + a1)), (3, .int x3)]) C.1 C.2.1 dX5_measure_45 hl (k := 2) rfl rfl (by decide) rfl (fun ls hl => ?_)
      refine lv_goto (tgt := 2) C.1 C.2.1 dX5_measure_48 (by decide) ?_
      exact hr2 X hk_a1 (lv_sub hl [1, 2, 0] rfl) h
    · replace h := ineg c17 h
      refine lv_aload_n C.1 C.2.1 dX5_measure_20 rfl (lv_at hl 0 rfl) ?_
      refine gfX5 C G X (k := 387) kd_387 0 (v := .ref (gB E + 388)) rfl rfl (by decide) k_380 rfl dX5_measure_21 ?_
      refine lv_iload_n C.1 C.2.1 dX5_measure_24 rfl (lv_at hl 2 rfl) ?_
      refine lv_bipush (v := 9) C.1 C.2.1 dX5_measure_25 (by decide) ?_
      refine lv_imul C.1 C.2.1 dX5_measure_27 ?_
      refine lv_iload_n C.1 C.2.1 dX5_measure_28 rfl (lv_at hl 3 rfl) ?_
      refine lv_iadd C.1 C.2.1 dX5_measure_29 ?_
      refine lv_aload_n C.1 C.2.1 dX5_measure_30 rfl (lv_at hl 1 rfl) ?_
      refine lv_iload_n C.1 C.2.1 dX5_measure_31 rfl (lv_at hl 2 rfl) ?_
      refine lv_iload_n C.1 C.2.1 dX5_measure_32 rfl (lv_at hl 3 rfl) ?_
      obtain ⟨r33, e33, h⟩ := bnd h
      refine afI X (runV C G X q_X7_farOf k_1230 k_1231 k_1423 (rcX7 G X hk_a1) (c_X7_farOf l E hk_a1 e33) rfl hl.1 rfl (Nat.le_of_ble_eq_true rfl) ⟨Nat.le_of_ble_eq_true rfl, Nat.le_of_ble_eq_true rfl⟩ ⟨Nat.le_of_ble_eq_true rfl, Nat.le_of_ble_eq_true rfl⟩ dX5_measure_33) (fun H locs X => ?_)
      obtain ⟨σ36, e36, h⟩ := bnd h
      refine afV X (runV C G X q_X6_set k_451 k_452 k_1424 (rcX6 G X kd_388) (c_X6_set l E kd_388 e36) rfl hl.1 rfl (Nat.le_of_ble_eq_true rfl) ⟨Nat.le_of_ble_eq_true rfl, Nat.le_of_ble_eq_true rfl⟩ ⟨Nat.le_of_ble_eq_true rfl, Nat.le_of_ble_eq_true rfl⟩ dX5_measure_36) (fun H locs X => ?_)
      refine lv_iinc (v := (x3 + 1)) (lv' := [(3, .int (x3 + 1)), (0, .ref (gB E + 387)), (1, .ref (gB E + a1)), (2, .int x2)]) C.1 C.2.1 dX5_measure_39 hl (k := 3) rfl rfl (by decide) rfl (fun ls hl => ?_)
      refine lv_goto (tgt := 12) C.1 C.2.1 dX5_measure_42 (by decide) ?_
      exact ih X hk_a1 (lv_sub hl [1, 2, 3, 0] rfl) h

set_option maxRecDepth 20000 in
theorem w_X5_measure_2 {r : Mem} (C : Cx p s m args meth c cX5_measure none 4 RX5) (G : Gf E s) : ∀ (f : Nat) {a1 : Nat} {x2 : Int32} {σ : Mem} {ls : Array Slot} {H : Heap} {locs : List Loc}, Hx E σ s H locs → kd a1 = 2 → lv_has ls 4 [(0, .ref (gB E + 387)), (1, .ref (gB E + a1)), (2, .int x2)] → X5_measure_2 f a1 x2 σ = some r → W p l e (RM 4) s m args below meth c H locs 0 0 (QV E below args s r) (F0 m 2 ls []) := by
  intro f
  induction f with
  | zero =>
    intro a1 x2 σ ls H locs X hk_a1 hl h
    rw [X5_measure_2] at h
    cases h
  | succ f ih =>
    intro a1 x2 σ ls H locs X hk_a1 hl h
    rw [X5_measure_2] at h
    refine lv_iload_n C.1 C.2.1 dX5_measure_2 rfl (lv_at hl 2 rfl) ?_
    refine lv_aload_n C.1 C.2.1 dX5_measure_3 rfl (lv_at hl 1 rfl) ?_
    refine gfX7 C G X (k := a1) hk_a1 0 (v := .int (σ a1 0)) rfl rfl (by decide) k_199 rfl dX5_measure_4 ?_
    refine lv_icmp_ge (tgt := 51) C.1 C.2.1 dX5_measure_7 (by decide) (fun c7 => ?_) (fun c7 => ?_)
    · replace h := ipos c7 h
      rw [← Option.some.inj h]
      exact rtV C X dX5_measure_51
    · replace h := ineg c7 h
      refine lv_iconst (v := 0) C.1 C.2.1 dX5_measure_10 (by decide) ?_
      refine lv_istore_n (lv' := [(3, .int (0 : Int32)), (0, .ref (gB E + 387)), (1, .ref (gB E + a1)), (2, .int x2)]) C.1 C.2.1 dX5_measure_11 rfl hl (by decide) rfl (fun ls hl => ?_)
      exact w_X5_measure_12 C G ih FU X hk_a1 (lv_sub hl [1, 2, 3, 0] rfl) h

set_option maxRecDepth 20000 in
theorem w_X5_measure {r : Mem} {σ : Mem} {a1 : Nat} {ls : Array Slot} {H : Heap} {locs : List Loc} (C : Cx p s m args meth c cX5_measure none 4 RX5) (G : Gf E s) (X : Hx E σ s H locs) (hk_a1 : kd a1 = 2) (hl : lv_has ls 4 [(0, .ref (gB E + 387)), (1, .ref (gB E + a1))]) (h : X5_measure a1 σ = some r) : W p l e (RM 4) s m args below meth c H locs 0 0 (QV E below args s r) (F0 m 0 ls []) := by
  rw [X5_measure] at h
  refine lv_iconst (v := 0) C.1 C.2.1 dX5_measure_0 (by decide) ?_
  refine lv_istore_n (lv' := [(2, .int (0 : Int32)), (0, .ref (gB E + 387)), (1, .ref (gB E + a1))]) C.1 C.2.1 dX5_measure_1 rfl hl (by decide) rfl (fun ls hl => ?_)
  exact w_X5_measure_2 C G FU X hk_a1 (lv_sub hl [1, 2, 0] rfl) h

theorem c_X5_measure (l : Launch) (E : GE) {σ : Mem} {a1 : Nat} (hk_a1 : kd a1 = 2) {r : Mem} (h : X5_measure a1 σ = some r) : CtV l E yX5_measure cX5_measure 4 4 [.ref (gB E + 387), .ref (gB E + a1)] σ r := by
  refine Met.ofW (cc := cX5_measure) (maxL := 4) (ret := none) (by decide) rfl ?_
  intro p e s m args below meth c s₁ B hml hv
  obtain ⟨rfl, G, X⟩ := start hv
  have C := cxof B hml
  have hl := lv_entry [.ref (gB E + 387), .ref (gB E + a1)] (n := 4) (Nat.le_of_ble_eq_true rfl)
  rw [lg_entry_eq]
  generalize (lg_sl [.ref (gB E + 387), .ref (gB E + a1)] ++ List.replicate (4 - (lg_sl [.ref (gB E + 387), .ref (gB E + a1)]).length) Slot.unset).toArray = ls at hl ⊢
  exact w_X5_measure C G X hk_a1 hl h

end WALK

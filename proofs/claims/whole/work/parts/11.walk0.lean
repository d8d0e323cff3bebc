def X6_set (a0 : Nat) (x1 : Int32) (x2 : Int32) (σ : Mem) : Option Mem :=
  if x1 < 0 then
    some σ
  else
    if (nI (ln (a0 + 1))) ≤ x1 then
      some σ
    else
      bd (au σ (a0 + 1) x1 x2) fun σ19 =>
      some σ19
def X10_put_3 : Nat → Int32 → Int32 → Mem → Option Mem
  | 0, _, _, _ => none
  | f + 1, x1, x2, σ =>
    if x2 < 0 then
      some σ
    else
      bd (X6_set 2 (σ 1 1) ((x1 >>> (x2 &&& 31)) &&& (255 : Int32)) σ) fun σ22 =>
      bd (pu σ22 1 1 ((σ22 1 1) + (1 : Int32))) fun σ32 =>
      X10_put_3 f x1 (x2 + (-8)) σ32
def X10_put (x1 : Int32) (σ : Mem) : Option Mem :=
  X10_put_3 FU x1 (24 : Int32) σ
def X11_feed (x1 : Int32) (x2 : Int32) (x3 : Int32) (x4 : Int32) (x5 : Int32) (σ : Mem) : Option (Int32 × Mem) :=
  if (σ 1 1) ≤ (380 : Int32) then
    bd (X10_put x1 σ) fun σ20 =>
    bd (X10_put x2 σ20) fun σ28 =>
    bd (X10_put x3 σ28) fun σ36 =>
    bd (X10_put x4 σ36) fun σ45 =>
    bd (X10_put x5 σ45) fun σ54 =>
    some ((σ54 1 1), σ54)
  else
    some ((-1 : Int32), σ)
def X11_end (x1 : Int32) (σ : Mem) : Option (Int32 × Mem) :=
  if x1 < 0 then
    bd (gb (0 : Int32)) fun _ =>
    some ((0 : Int32), σ)
  else
    if x1 ≤ (σ 1 1) then
      bd (pu σ 1 1 x1) fun σ22 =>
      bd (gb (1 : Int32)) fun _ =>
      some ((1 : Int32), σ22)
    else
      bd (gb (0 : Int32)) fun _ =>
      some ((0 : Int32), σ)
def X10_useUp (σ : Mem) : Option (Int32 × Mem) :=
  bd (pu σ 1 1 (0 : Int32)) fun σ7 =>
  some ((σ 1 1), σ7)
def X6_get (σ : Mem) (a0 : Nat) (x1 : Int32) : Option Int32 :=
  if x1 < 0 then
    some ((0 : Int32))
  else
    if (nI (ln (a0 + 1))) ≤ x1 then
      some ((0 : Int32))
    else
      bd (ag σ (a0 + 1) x1) fun r18 =>
      some (r18)
def X10_behindBlanks_2 (σ : Mem) : Nat → Int32 → Int32 → Option Int32
  | 0, _, _ => none
  | f + 1, x2, x3 =>
    if x2 ≤ x3 then
      some (x3)
    else
      bd (X6_get σ 2 x3) fun r12 =>
      if r12 = (32 : Int32) then
        X10_behindBlanks_2 σ f x2 (x3 + 1)
      else
        some (x3)
def X10_behindBlanks (σ : Mem) (x1 : Int32) (x2 : Int32) : Option Int32 :=
  X10_behindBlanks_2 σ FU x2 x1
def X10_kindOf_14 (σ : Mem) (x0 : Int32) : Option Int32 :=
  if x0 < (48 : Int32) then
    some ((0 : Int32))
  else
    if (57 : Int32) < x0 then
      some ((0 : Int32))
    else
      some ((2 : Int32))
def X10_kindOf (σ : Mem) (x0 : Int32) : Option Int32 :=
  if x0 < (97 : Int32) then
    X10_kindOf_14 σ x0
  else
    if (122 : Int32) < x0 then
      X10_kindOf_14 σ x0
    else
      some ((1 : Int32))
def X10_behindTerm_21 (σ : Mem) : Nat → Int32 → Int32 → Int32 → Option Int32
  | 0, _, _, _ => none
  | f + 1, x2, x3, x4 =>
    if x2 ≤ x4 then
      some (x4)
    else
      if x3 = 0 then
        some (x4)
      else
        bd (X6_get σ 2 x4) fun r37 =>
        bd (X10_kindOf σ r37) fun r40 =>
        if r40 = x3 then
          X10_behindTerm_21 σ f x2 x3 (x4 + 1)
        else
          some (x4)
def X10_behindTerm (σ : Mem) (x1 : Int32) (x2 : Int32) : Option Int32 :=
  bd (X6_get σ 2 x1) fun r5 =>
  bd (X10_kindOf σ r5) fun r8 =>
  bd (some ((if x2 < (x1 + (1 : Int32)) then x2 else (x1 + (1 : Int32))))) fun v19 =>
  X10_behindTerm_21 σ FU x2 r8 v19
def X10_spells_15 (σ : Mem) : Nat → Nat → Int32 → Int32 → Option Int32
  | 0, _, _, _ => none
  | f + 1, s1, x2, x4 =>
    bd (gs s1) fun _ =>
    bd (slen σ s1) fun r18 =>
    if r18 ≤ x4 then
      bd (gb (1 : Int32)) fun _ =>
      some ((1 : Int32))
    else
      bd (gs s1) fun _ =>
      bd (scha σ s1 x4) fun r27 =>
      bd (X6_get σ 2 (x2 + x4)) fun r38 =>
      if r27 = r38 then
        X10_spells_15 σ f s1 x2 (x4 + 1)
      else
        bd (gb (0 : Int32)) fun _ =>
        some ((0 : Int32))
def X10_spells (σ : Mem) (s1 : Nat) (x2 : Int32) (x3 : Int32) : Option Int32 :=
  bd (gs s1) fun _ =>
  bd (slen σ s1) fun r1 =>
  if r1 = (x3 - x2) then
    X10_spells_15 σ FU s1 x2 (0 : Int32)
  else
    bd (gb (0 : Int32)) fun _ =>
    some ((0 : Int32))
def X10_termOf_52 (σ : Mem) : Nat → Int32 → Int32 → Int32 → Int32 → Option Int32
  | 0, _, _, _, _ => none
  | f + 1, x1, x2, x4, x5 =>
    if x4 ≤ x5 then
      some ((2 : Int32))
    else
      bd (tAl x5) fun r62 =>
      bd (tSp r62) fun r68 =>
      bd (X10_spells σ r68 x1 x2) fun r73 =>
      if r73 = 0 then
        X10_termOf_52 σ f x1 x2 x4 (x5 + 1)
      else
        some (r62)
def X10_termOf (σ : Mem) (x1 : Int32) (x2 : Int32) : Option Int32 :=
  if x1 < x2 then
    bd (X6_get σ 2 x1) fun r14 =>
    bd (X10_kindOf σ r14) fun r17 =>
    if r17 = (2 : Int32) then
      if (3 : Int32) < (x2 - x1) then
        some ((2 : Int32))
      else
        some ((3 : Int32))
    else
      X10_termOf_52 σ FU x1 x2 (nI 32) (0 : Int32)
  else
    some ((1 : Int32))
def X10_valueOf_5 (σ : Mem) : Nat → Int32 → Int32 → Int32 → Option Int32
  | 0, _, _, _ => none
  | f + 1, x2, x3, x4 =>
    if x2 ≤ x4 then
      some (x3)
    else
      bd (X6_get σ 2 x4) fun r21 =>
      X10_valueOf_5 σ f x2 (((x3 * (10 : Int32)) + r21) - (48 : Int32)) (x4 + 1)
def X10_valueOf (σ : Mem) (x1 : Int32) (x2 : Int32) : Option Int32 :=
  X10_valueOf_5 σ FU x2 (0 : Int32) x1
def X10_scan_93 (rc19 : Int32 → Int32 → Int32 → Mem → Option Mem) (x1 : Int32) (x2 : Int32) (x3 : Int32) (x4 : Int32) (y1 : Int32) (y2 : Int32) (σ : Mem) : Option Mem :=
  bd (X6_set 7 y1 y2 σ) fun σ93 =>
  if x2 < x1 then
    rc19 x1 x4 (x3 + 1) σ93
  else
    some σ93
def X10_scan_19 : Nat → Int32 → Int32 → Int32 → Mem → Option Mem
  | 0, _, _, _, _ => none
  | f + 1, x1, x2, x3, σ =>
    if (nI (ln 4)) ≤ x3 then
      some σ
    else
      bd (X10_behindBlanks σ x2 x1) fun r31 =>
      bd (X10_behindTerm σ r31 x1) fun r38 =>
      bd (X10_termOf σ r31 r38) fun r52 =>
      bd (gt r52) fun _ =>
      bd (au σ 4 x3 r52) fun σ55 =>
      bd (X6_set 5 x3 r31 σ55) fun σ62 =>
      bd (ag σ62 4 x3) fun r75 =>
      bd (gt2 r75 (3 : Int32)) fun _ =>
      if r75 = (3 : Int32) then
        bd (X10_valueOf σ62 r31 r38) fun r86 =>
        X10_scan_93 (X10_scan_19 f) x1 r31 x3 r38 x3 r86 σ62
      else
        X10_scan_93 (X10_scan_19 f) x1 r31 x3 r38 x3 (0 : Int32) σ62
def X10_scan (σ : Mem) : Option Mem :=
  bd2 (X10_useUp σ) fun r1 σ1 =>
  bd (pu σ1 1 5 (0 : Int32)) fun σ9 =>
  bd (pu σ9 1 6 (-1 : Int32)) fun σ14 =>
  X10_scan_19 FU r1 (0 : Int32) (0 : Int32) σ14
def X6_copyFrom (a0 : Nat) (a1 : Nat) (σ : Mem) : Option Mem :=
  bd (cp σ (a1 + 1) (0 : Int32) (a0 + 1) (0 : Int32) (if (nI (ln (a1 + 1))) < (nI (ln (a0 + 1))) then (nI (ln (a1 + 1))) else (nI (ln (a0 + 1))))) fun σ23 =>
  some σ23
def X7_copyFrom (a0 : Nat) (a1 : Nat) (σ : Mem) : Option Mem :=
  bd (pu σ a0 0 (σ a1 0)) fun σ5 =>
  bd (pu σ5 a0 1 (σ5 a1 1)) fun σ13 =>
  bd (pu σ13 a0 2 (σ13 a1 2)) fun σ21 =>
  bd (pu σ21 a0 3 (σ21 a1 3)) fun σ29 =>
  bd (pu σ29 a0 4 (σ29 a1 4)) fun σ37 =>
  bd (pu σ37 a0 5 (σ37 a1 5)) fun σ45 =>
  bd (gb (σ45 a1 6)) fun _ =>
  bd (pu σ45 a0 6 (σ45 a1 6)) fun σ53 =>
  bd (pu σ53 a0 7 (σ53 a1 7)) fun σ61 =>
  bd (pu σ61 a0 8 (σ61 a1 8)) fun σ69 =>
  bd (X6_copyFrom (a0 + 1) (a1 + 1) σ69) fun σ80 =>
  bd (X6_copyFrom (a0 + 3) (a1 + 3) σ80) fun σ91 =>
  bd (X6_copyFrom (a0 + 5) (a1 + 5) σ91) fun σ102 =>
  bd (X6_copyFrom (a0 + 7) (a1 + 7) σ102) fun σ113 =>
  bd (X6_copyFrom (a0 + 9) (a1 + 9) σ113) fun σ124 =>
  bd (X6_copyFrom (a0 + 11) (a1 + 11) σ124) fun σ135 =>
  bd (X6_copyFrom (a0 + 13) (a1 + 13) σ135) fun σ146 =>
  bd (X6_copyFrom (a0 + 15) (a1 + 15) σ146) fun σ157 =>
  bd (X6_copyFrom (a0 + 17) (a1 + 17) σ157) fun σ168 =>
  bd (X6_copyFrom (a0 + 19) (a1 + 19) σ168) fun σ179 =>
  bd (pu σ179 a0 19 (σ179 a1 19)) fun σ187 =>
  some σ187
def X10_term_32 (σ : Mem) (u0 : Int32) : Option Int32 :=
  if u0 = 0 then
    some ((1 : Int32))
  else
    some (u0)
def X10_term_31 (σ : Mem) : Option Int32 :=
  X10_term_32 σ 0
def X10_term (σ : Mem) : Option Int32 :=
  if (σ 1 5) < 0 then
    X10_term_31 σ
  else
    if (nI (ln 4)) ≤ (σ 1 5) then
      X10_term_31 σ
    else
      bd (ag σ 4 (σ 1 5)) fun r27 =>
      X10_term_32 σ r27
def X10_is (σ : Mem) (t1 : Int32) : Option Int32 :=
  bd (X10_term σ) fun r1 =>
  bd (gt2 r1 t1) fun _ =>
  if r1 = t1 then
    bd (gb (1 : Int32)) fun _ =>
    some ((1 : Int32))
  else
    bd (gb (0 : Int32)) fun _ =>
    some ((0 : Int32))
def X10_take (t1 : Int32) (σ : Mem) : Option (Int32 × Mem) :=
  bd (X10_term σ) fun r1 =>
  bd (gt2 r1 t1) fun _ =>
  if r1 = t1 then
    bd (pu σ 1 5 ((σ 1 5) + (1 : Int32))) fun σ17 =>
    bd (gb (1 : Int32)) fun _ =>
    some ((1 : Int32), σ17)
  else
    bd (gb (0 : Int32)) fun _ =>
    some ((0 : Int32), σ)
def X10_wrong (σ : Mem) : Option (Int32 × Mem) :=
  bd (X6_get σ 5 (σ 1 5)) fun r9 =>
  bd (pu σ 1 6 r9) fun σ12 =>
  bd (gb (0 : Int32)) fun _ =>
  some ((0 : Int32), σ12)
def X10_need (t1 : Int32) (σ : Mem) : Option (Int32 × Mem) :=
  bd2 (X10_take t1 σ) fun r2 σ2 =>
  if r2 = 0 then
    bd2 (X10_wrong σ2) fun r9 σ9 =>
    if r9 = 0 then
      bd (gb (0 : Int32)) fun _ =>
      some ((0 : Int32), σ9)
    else
      bd (gb (1 : Int32)) fun _ =>
      some ((1 : Int32), σ9)
  else
    bd (gb (1 : Int32)) fun _ =>
    some ((1 : Int32), σ2)
def X10_hasLine_26 (x1 : Int32) (x2 : Int32) (σ : Mem) : Option (Int32 × Mem) :=
  if x1 < x2 then
    bd (gb (1 : Int32)) fun _ =>
    some ((1 : Int32), σ)
  else
    bd2 (X10_wrong σ) fun r32 σ32 =>
    if r32 = 0 then
      bd (gb (0 : Int32)) fun _ =>
      some ((0 : Int32), σ32)
    else
      bd (gb (1 : Int32)) fun _ =>
      some ((1 : Int32), σ32)
def X10_hasLine (x1 : Int32) (x2 : Int32) (σ : Mem) : Option (Int32 × Mem) :=
  bd (X10_is σ (1 : Int32)) fun r4 =>
  if r4 = 0 then
    if x1 ≤ 0 then
      X10_hasLine_26 x1 x2 σ
    else
      bd2 (X10_need (4 : Int32) σ) fun r18 σ18 =>
      if r18 = 0 then
        bd (gb (0 : Int32)) fun _ =>
        some ((0 : Int32), σ18)
      else
        X10_hasLine_26 x1 x2 σ18
  else
    bd (gb (0 : Int32)) fun _ =>
    some ((0 : Int32), σ)
def X10_needUpTo_25 (σ : Mem) : Option (Int32 × Mem) :=
  bd (X6_get σ 5 (σ 1 5)) fun r34 =>
  bd (pu σ 1 6 r34) fun σ37 =>
  some ((-1 : Int32), σ37)
def X10_needUpTo (x1 : Int32) (σ : Mem) : Option (Int32 × Mem) :=
  bd (X10_term σ) fun r1 =>
  bd (gt2 r1 (3 : Int32)) fun _ =>
  if r1 = (3 : Int32) then
    bd (X6_get σ 7 (σ 1 5)) fun r18 =>
    if r18 ≤ x1 then
      bd (pu σ 1 5 ((σ 1 5) + (1 : Int32))) fun σ49 =>
      bd (X6_get σ49 7 ((σ49 1 5) - (1 : Int32))) fun r62 =>
      some (r62, σ49)
    else
      X10_needUpTo_25 σ
  else
    X10_needUpTo_25 σ
def X11_bit (σ : Mem) (x0 : Int32) : Option Int32 :=
  some (((1 : Int32) <<< (x0 &&& 31)))
def X7_addPane (a0 : Nat) (x1 : Int32) (x2 : Int32) (σ : Mem) : Option Mem :=
  bd (pu σ a0 0 ((σ a0 0) + (1 : Int32))) fun σ12 =>
  bd (X6_set (a0 + 1) (σ a0 0) x1 σ12) fun σ21 =>
  bd (X6_set (a0 + 3) (σ a0 0) (-1 : Int32) σ21) fun σ30 =>
  bd (X6_set (a0 + 5) (σ a0 0) (0 : Int32) σ30) fun σ39 =>
  bd (X6_set (a0 + 7) (σ a0 0) (0 : Int32) σ39) fun σ48 =>
  if x2 = 0 then
    some σ48
  else
    bd (X11_bit σ48 (σ a0 0)) fun r61 =>
    bd (pu σ48 a0 8 ((σ48 a0 8) ||| r61)) fun σ65 =>
    some σ65
def X8_readPane_45 (a1 : Nat) (x2 : Int32) (y0 : Int32) (σ : Mem) : Option (Int32 × Mem) :=
  bd (X7_addPane a1 x2 y0 σ) fun σ49 =>
  bd (gb (1 : Int32)) fun _ =>
  some ((1 : Int32), σ49)
def X8_readPane_44 (a1 : Nat) (x2 : Int32) (σ : Mem) : Option (Int32 × Mem) :=
  X8_readPane_45 a1 x2 (0 : Int32) σ
def X8_readPane_26 (a1 : Nat) (x2 : Int32) (σ : Mem) : Option (Int32 × Mem) :=
  if x2 ≤ 0 then
    X8_readPane_44 a1 x2 σ
  else
    bd2 (X10_take (19 : Int32) σ) fun r34 σ34 =>
    if r34 = 0 then
      X8_readPane_44 a1 x2 σ34
    else
      X8_readPane_45 a1 x2 (1 : Int32) σ34
def X8_readPane (a1 : Nat) (σ : Mem) : Option (Int32 × Mem) :=
  bd2 (X10_take (12 : Int32) σ) fun r7 σ7 =>
  if r7 = 0 then
    X8_readPane_26 a1 (20 : Int32) σ7
  else
    bd2 (X10_needUpTo (99 : Int32) σ7) fun r16 σ16 =>
    if 0 ≤ r16 then
      X8_readPane_26 a1 r16 σ16
    else
      bd (gb (0 : Int32)) fun _ =>
      some ((0 : Int32), σ16)
def X10_wrongBefore (σ : Mem) : Option (Int32 × Mem) :=
  bd (X6_get σ 5 ((σ 1 5) - (1 : Int32))) fun r11 =>
  bd (pu σ 1 6 r11) fun σ14 =>
  bd (gb (0 : Int32)) fun _ =>
  some ((0 : Int32), σ14)
def X7_setLikes (a0 : Nat) (x1 : Int32) (x2 : Int32) (x3 : Int32) (σ : Mem) : Option Mem :=
  bd (X6_set (a0 + 17) ((x1 * (6 : Int32)) + x2) x3 σ) fun σ11 =>
  some σ11
def X7_addWalker_59 : Nat → Nat → Int32 → Int32 → Mem → Option Mem
  | 0, _, _, _, _ => none
  | f + 1, a0, x4, x5, σ =>
    if x4 ≤ x5 then
      some σ
    else
      bd (X7_setLikes a0 x4 x5 (5 : Int32) σ) fun σ72 =>
      bd (X7_setLikes a0 x5 x4 (5 : Int32) σ72) fun σ81 =>
      X7_addWalker_59 f a0 x4 (x5 + 1) σ81
def X7_addWalker (a0 : Nat) (x1 : Int32) (x2 : Int32) (x3 : Int32) (σ : Mem) : Option Mem :=
  bd (pu σ a0 1 ((σ a0 1) + (1 : Int32))) fun σ13 =>
  bd (X6_set (a0 + 9) (σ a0 1) x1 σ13) fun σ23 =>
  bd (X6_set (a0 + 11) (σ a0 1) x2 σ23) fun σ33 =>
  bd (X6_set (a0 + 13) (σ a0 1) x3 σ33) fun σ43 =>
  bd (X6_set (a0 + 15) (σ a0 1) (0 : Int32) σ43) fun σ53 =>
  X7_addWalker_59 FU a0 (σ a0 1) (0 : Int32) σ53
def X8_readWalker_156 (a1 : Nat) (x2 : Int32) (x3 : Int32) (x5 : Int32) (σ : Mem) : Option (Int32 × Mem) :=
  bd (X7_addWalker a1 x2 x3 x5 σ) fun σ161 =>
  bd (gb (1 : Int32)) fun _ =>
  some ((1 : Int32), σ161)
def X8_readWalker_138 (a1 : Nat) (x2 : Int32) (x3 : Int32) (x4 : Int32) (x5 : Int32) (σ : Mem) : Option (Int32 × Mem) :=
  if x4 < 0 then
    X8_readWalker_156 a1 x2 x3 x5 σ
  else
    bd (X6_set (a1 + 3) x4 (σ a1 1) σ) fun σ153 =>
    X8_readWalker_156 a1 x2 x3 x5 σ153
def X8_readWalker_106 (a1 : Nat) (x2 : Int32) (x3 : Int32) (x4 : Int32) (σ : Mem) : Option (Int32 × Mem) :=
  bd2 (X10_take (22 : Int32) σ) fun r113 σ113 =>
  if r113 = 0 then
    X8_readWalker_138 a1 x2 x3 x4 (-1 : Int32) σ113
  else
    bd2 (X10_needUpTo ((σ113 a1 0) - (1 : Int32)) σ113) fun r126 σ126 =>
    if 0 ≤ r126 then
      X8_readWalker_138 a1 x2 x3 x4 r126 σ126
    else
      bd (gb (0 : Int32)) fun _ =>
      some ((0 : Int32), σ126)
def X8_readWalker_49 (a1 : Nat) (x2 : Int32) (y0 : Int32) (σ : Mem) : Option (Int32 × Mem) :=
  if 0 ≤ y0 then
    bd2 (X10_take (21 : Int32) σ) fun r63 σ63 =>
    if r63 = 0 then
      X8_readWalker_106 a1 x2 y0 (-1 : Int32) σ63
    else
      bd2 (X10_needUpTo ((σ63 a1 0) - (1 : Int32)) σ63) fun r76 σ76 =>
      if 0 ≤ r76 then
        bd (X6_get σ76 (a1 + 3) r76) fun r94 =>
        if r94 = (-1 : Int32) then
          X8_readWalker_106 a1 x2 y0 r76 σ76
        else
          bd2 (X10_wrongBefore σ76) fun r102 σ102 =>
          bd (gb r102) fun _ =>
          some (r102, σ102)
      else
        bd (gb (0 : Int32)) fun _ =>
        some ((0 : Int32), σ76)
  else
    bd (gb (0 : Int32)) fun _ =>
    some ((0 : Int32), σ)
def X8_readWalker_48 (a1 : Nat) (x2 : Int32) (σ : Mem) : Option (Int32 × Mem) :=
  X8_readWalker_49 a1 x2 (-1 : Int32) σ
def X8_readWalker_24 (a1 : Nat) (y0 : Int32) (σ : Mem) : Option (Int32 × Mem) :=
  if y0 < 0 then
    X8_readWalker_48 a1 y0 σ
  else
    bd2 (X10_need (14 : Int32) σ) fun r33 σ33 =>
    if r33 = 0 then
      X8_readWalker_48 a1 y0 σ33
    else
      bd2 (X10_needUpTo (99 : Int32) σ33) fun r42 σ42 =>
      X8_readWalker_49 a1 y0 r42 σ42
def X8_readWalker (a1 : Nat) (σ : Mem) : Option (Int32 × Mem) :=
  bd2 (X10_need (20 : Int32) σ) fun r4 σ4 =>
  if r4 = 0 then
    X8_readWalker_24 a1 (-1 : Int32) σ4
  else
    bd2 (X10_needUpTo ((σ4 a1 0) - (1 : Int32)) σ4) fun r17 σ17 =>
    X8_readWalker_24 a1 r17 σ17
def X7_setWay (a0 : Nat) (x1 : Int32) (x2 : Int32) (x3 : Int32) (σ : Mem) : Option Mem :=
  if x3 = 0 then
    bd (X6_get σ (a0 + 7) x1) fun r59 =>
    bd (X11_bit σ x2) fun r63 =>
    bd (X6_set (a0 + 7) x1 (r59 &&& (r63 ^^^ (-1 : Int32))) σ) fun σ69 =>
    bd (X6_get σ69 (a0 + 7) x2) fun r82 =>
    bd (X11_bit σ69 x1) fun r86 =>
    bd (X6_set (a0 + 7) x2 (r82 &&& (r86 ^^^ (-1 : Int32))) σ69) fun σ92 =>
    some σ92
  else
    bd (X6_get σ (a0 + 7) x1) fun r14 =>
    bd (X11_bit σ x2) fun r18 =>
    bd (X6_set (a0 + 7) x1 (r14 ||| r18) σ) fun σ22 =>
    bd (X6_get σ22 (a0 + 7) x2) fun r35 =>
    bd (X11_bit σ22 x1) fun r39 =>
    bd (X6_set (a0 + 7) x2 (r35 ||| r39) σ22) fun σ43 =>
    some σ43
def X8_readWay_29 (a1 : Nat) (x2 : Int32) (y0 : Int32) (σ : Mem) : Option (Int32 × Mem) :=
  if 0 ≤ y0 then
    if y0 = x2 then
      bd2 (X10_wrongBefore σ) fun r42 σ42 =>
      bd (gb r42) fun _ =>
      some (r42, σ42)
    else
      bd (X7_setWay a1 x2 y0 (1 : Int32) σ) fun σ50 =>
      bd (gb (1 : Int32)) fun _ =>
      some ((1 : Int32), σ50)
  else
    bd (gb (0 : Int32)) fun _ =>
    some ((0 : Int32), σ)
def X8_readWay (a1 : Nat) (σ : Mem) : Option (Int32 × Mem) :=
  bd2 (X10_needUpTo ((σ a1 0) - (1 : Int32)) σ) fun r7 σ7 =>
  if r7 < 0 then
    X8_readWay_29 a1 r7 (-1 : Int32) σ7
  else
    bd2 (X10_needUpTo ((σ7 a1 0) - (1 : Int32)) σ7) fun r22 σ22 =>
    X8_readWay_29 a1 r7 r22 σ22
def X8_readLikes_29 (a1 : Nat) (x2 : Int32) (y0 : Int32) (σ : Mem) : Option (Int32 × Mem) :=
  if 0 ≤ y0 then
    if y0 = x2 then
      bd2 (X10_wrongBefore σ) fun r42 σ42 =>
      bd (gb r42) fun _ =>
      some (r42, σ42)
    else
      bd2 (X10_needUpTo (9 : Int32) σ) fun r49 σ49 =>
      if 0 ≤ r49 then
        bd (X7_setLikes a1 x2 y0 r49 σ49) fun σ66 =>
        bd (gb (1 : Int32)) fun _ =>
        some ((1 : Int32), σ66)
      else
        bd (gb (0 : Int32)) fun _ =>
        some ((0 : Int32), σ49)
  else
    bd (gb (0 : Int32)) fun _ =>
    some ((0 : Int32), σ)
def X8_readLikes (a1 : Nat) (σ : Mem) : Option (Int32 × Mem) :=
  bd2 (X10_needUpTo ((σ a1 1) - (1 : Int32)) σ) fun r7 σ7 =>
  if r7 < 0 then
    X8_readLikes_29 a1 r7 (-1 : Int32) σ7
  else
    bd2 (X10_needUpTo ((σ7 a1 1) - (1 : Int32)) σ7) fun r22 σ22 =>
    X8_readLikes_29 a1 r7 r22 σ22
def X8_readTime (a1 : Nat) (σ : Mem) : Option (Int32 × Mem) :=
  bd2 (X10_take (24 : Int32) σ) fun r4 σ4 =>
  if r4 = 0 then
    bd2 (X10_take (16 : Int32) σ4) fun r37 σ37 =>
    if r37 = 0 then
      bd2 (X10_take (25 : Int32) σ37) fun r70 σ70 =>
      if r70 = 0 then
        bd2 (X10_wrong σ70) fun r101 σ101 =>
        bd (gb r101) fun _ =>
        some (r101, σ101)
      else
        bd2 (X10_needUpTo (999 : Int32) σ70) fun r81 σ81 =>
        bd (pu σ81 a1 4 r81) fun σ84 =>
        if (σ84 a1 4) < 0 then
          bd (gb (0 : Int32)) fun _ =>
          some ((0 : Int32), σ84)
        else
          bd (gb (1 : Int32)) fun _ =>
          some ((1 : Int32), σ84)
    else
      bd2 (X10_needUpTo (23 : Int32) σ37) fun r47 σ47 =>
      bd (pu σ47 a1 3 r47) fun σ50 =>
      if (σ50 a1 3) < 0 then
        bd (gb (0 : Int32)) fun _ =>
        some ((0 : Int32), σ50)
      else
        bd (gb (1 : Int32)) fun _ =>
        some ((1 : Int32), σ50)
  else
    bd2 (X10_needUpTo (100 : Int32) σ4) fun r14 σ14 =>
    bd (pu σ14 a1 5 r14) fun σ17 =>
    if (σ17 a1 5) < 0 then
      bd (gb (0 : Int32)) fun _ =>
      some ((0 : Int32), σ17)
    else
      bd (gb (1 : Int32)) fun _ =>
      some ((1 : Int32), σ17)
def X8_readLine_50 (a1 : Nat) (σ : Mem) : Option (Int32 × Mem) :=
  bd2 (X10_take (23 : Int32) σ) fun r54 σ54 =>
  if r54 = 0 then
    bd2 (X10_take (15 : Int32) σ54) fun r70 σ70 =>
    if r70 = 0 then
      bd2 (X8_readTime a1 σ70) fun r84 σ84 =>
      bd (gb r84) fun _ =>
      some (r84, σ84)
    else
      bd2 (X8_readLikes a1 σ70) fun r78 σ78 =>
      bd (gb r78) fun _ =>
      some (r78, σ78)
  else
    bd2 (X8_readWay a1 σ54) fun r62 σ62 =>
    bd (gb r62) fun _ =>
    some (r62, σ62)
def X8_readLine_25 (a1 : Nat) (σ : Mem) : Option (Int32 × Mem) :=
  if (6 : Int32) ≤ (σ a1 1) then
    X8_readLine_50 a1 σ
  else
    bd2 (X10_take (11 : Int32) σ) fun r38 σ38 =>
    if r38 = 0 then
      X8_readLine_50 a1 σ38
    else
      bd2 (X8_readWalker a1 σ38) fun r46 σ46 =>
      bd (gb r46) fun _ =>
      some (r46, σ46)
def X8_readLine (a1 : Nat) (σ : Mem) : Option (Int32 × Mem) :=
  if (9 : Int32) ≤ (σ a1 0) then
    X8_readLine_25 a1 σ
  else
    bd2 (X10_take (10 : Int32) σ) fun r13 σ13 =>
    if r13 = 0 then
      X8_readLine_25 a1 σ13
    else
      bd2 (X8_readPane a1 σ13) fun r21 σ21 =>
      bd (gb r21) fun _ =>
      some (r21, σ21)
def X8_readAll_34 (σ : Mem) : Option (Int32 × Mem) :=
  if (σ 1 6) = (-1 : Int32) then
    bd (gb (1 : Int32)) fun _ =>
    some ((1 : Int32), σ)
  else
    bd (gb (0 : Int32)) fun _ =>
    some ((0 : Int32), σ)
def X8_readAll_2 : Nat → Nat → Int32 → Mem → Option (Int32 × Mem)
  | 0, _, _, _ => none
  | f + 1, a1, x2, σ =>
    if (14 : Int32) < x2 then
      X8_readAll_34 σ
    else
      bd2 (X10_hasLine x2 (14 : Int32) σ) fun r12 σ12 =>
      if r12 = 0 then
        X8_readAll_34 σ12
      else
        bd2 (X8_readLine a1 σ12) fun r20 σ20 =>
        if r20 = 0 then
          bd (gb (0 : Int32)) fun _ =>
          some ((0 : Int32), σ20)
        else
          X8_readAll_2 f a1 (x2 + 1) σ20
def X8_readAll (a1 : Nat) (σ : Mem) : Option (Int32 × Mem) :=
  X8_readAll_2 FU a1 (0 : Int32) σ
def X2_forget (σ : Mem) : Option Mem :=
  bd (pu σ 111 2 (0 : Int32)) fun σ2 =>
  some σ2
def X11_street (σ : Mem) : Option ((Int32 ⊕ Nat) × Mem) :=
  bd (X10_scan σ) fun σ4 =>
  bd (X7_copyFrom 30 9 σ4) fun σ15 =>
  bd2 (X8_readAll 30 σ15) fun r26 σ26 =>
  if r26 = 0 then
    some (.inr 2, σ26)
  else
    if (σ26 9 2) < (12 : Int32) then
      bd (X7_copyFrom 9 30 σ26) fun σ72 =>
      bd (pu σ72 9 2 ((σ72 9 2) + (1 : Int32))) fun σ85 =>
      bd (X2_forget σ85) fun σ92 =>
      some (.inl (σ92 9 2), σ92)
    else
      some (.inr 5, σ26)
def X3_begin (a0 : Nat) (σ : Mem) : Option Mem :=
  bd (pu σ a0 0 (0 : Int32)) fun σ2 =>
  bd (pu σ2 a0 5 (0 : Int32)) fun σ7 =>
  some σ7
def X3_beginLine (a0 : Nat) (x1 : Int32) (x2 : Int32) (σ : Mem) : Option Mem :=
  bd (X6_set (a0 + 1) (σ a0 0) x1 σ) fun σ9 =>
  if x2 = 0 then
    bd (X6_set (a0 + 3) (σ9 a0 0) (0 : Int32) σ9) fun σ29 =>
    some σ29
  else
    bd (X6_set (a0 + 3) (σ9 a0 0) (1 : Int32) σ9) fun σ29 =>
    some σ29
def X3_emit (a0 : Nat) (x1 : Int32) (σ : Mem) : Option Mem :=
  bd (X6_set (a0 + 7) (σ a0 5) x1 σ) fun σ9 =>
  bd (pu σ9 a0 5 ((σ9 a0 5) + (1 : Int32))) fun σ19 =>
  some σ19
def X9_isYesOrNo (σ : Mem) (t0 : Int32) : Option Int32 :=
  bd (tFa t0) fun r1 =>
  if r1 < (7 : Int32) then
    bd (gb (0 : Int32)) fun _ =>
    some ((0 : Int32))
  else
    bd (gb (1 : Int32)) fun _ =>
    some ((1 : Int32))
def X10_step (σ : Mem) : Option Mem :=
  bd (pu σ 1 5 ((σ 1 5) + (1 : Int32))) fun σ7 =>
  some σ7
def X9_isPart (σ : Mem) (t0 : Int32) : Option Int32 :=
  bd (tFa t0) fun r1 =>
  if r1 < 0 then
    bd (gb (0 : Int32)) fun _ =>
    some ((0 : Int32))
  else
    bd (tFa t0) fun r8 =>
    if (7 : Int32) ≤ r8 then
      bd (gb (0 : Int32)) fun _ =>
      some ((0 : Int32))
    else
      bd (gb (1 : Int32)) fun _ =>
      some ((1 : Int32))
def X4_readSum_69 (rc2 : Nat → Int32 → Mem → Option (Int32 × Mem)) (a1 : Nat) (x2 : Int32) (σ : Mem) : Option (Int32 × Mem) :=
  bd2 (X10_take (7 : Int32) σ) fun r73 σ73 =>
  if r73 = 0 then
    bd (gb (1 : Int32)) fun _ =>
    some ((1 : Int32), σ73)
  else
    rc2 a1 (x2 + 1) σ73
def X4_readSum_60 (rc2 : Nat → Int32 → Mem → Option (Int32 × Mem)) (a1 : Nat) (x2 : Int32) (σ : Mem) : Option (Int32 × Mem) :=
  if x2 ≤ 0 then
    X4_readSum_69 rc2 a1 x2 σ
  else
    bd (X3_emit a1 (-1 : Int32) σ) fun σ66 =>
    X4_readSum_69 rc2 a1 x2 σ66
def X4_readSum_2 : Nat → Nat → Int32 → Mem → Option (Int32 × Mem)
  | 0, _, _, _ => none
  | f + 1, a1, x2, σ =>
    if (400 : Int32) ≤ x2 then
      bd2 (X10_wrong σ) fun r88 σ88 =>
      bd (gb r88) fun _ =>
      some (r88, σ88)
    else
      bd (X10_term σ) fun r10 =>
      bd (gt r10) fun _ =>
      bd (X9_isPart σ r10) fun r13 =>
      if r13 = 0 then
        bd2 (X10_needUpTo (999 : Int32) σ) fun r45 σ45 =>
        if 0 ≤ r45 then
          bd (X3_emit a1 r45 σ45) fun σ57 =>
          X4_readSum_60 (X4_readSum_2 f) a1 x2 σ57
        else
          bd (gb (0 : Int32)) fun _ =>
          some ((0 : Int32), σ45)
      else
        bd (X10_term σ) fun r24 =>
        bd (tFa r24) fun r27 =>
        bd (X3_emit a1 ((1000 : Int32) + r27) σ) fun σ31 =>
        bd (X10_step σ31) fun σ35 =>
        X4_readSum_60 (X4_readSum_2 f) a1 x2 σ35
def X4_readSum (a1 : Nat) (σ : Mem) : Option (Int32 × Mem) :=
  X4_readSum_2 FU a1 (0 : Int32) σ
section WALK
variable {p : Program} {l : Launch} {e : Env} {s : State} {m : MethodId} {args : Array Value} {below : List Frame} {meth : Method} {c : Code} {E : GE}
set_option maxRecDepth 20000 in
theorem w_X6_set {r : Mem} {σ : Mem} {a0 : Nat} {x1 : Int32} {x2 : Int32} {ls : Array Slot} {H : Heap} {locs : List Loc} (C : Cx p s m args meth c cX6_set none 3 RX6) (G : Gf E s) (X : Hx E σ s H locs) (hk_a0 : kd a0 = 1) (hl : lv_has ls 3 [(0, .ref (gB E + a0)), (1, .int x1), (2, .int x2)]) (h : X6_set a0 x1 x2 σ = some r) : W p l e (RM 1) s m args below meth c H locs 0 0 (QV E below args s r) (F0 m 0 ls []) := by
  rw [X6_set] at h
  refine lv_iload_n C.1 C.2.1 dX6_set_0 rfl (lv_at hl 1 rfl) ?_
  refine lv_if_lt (tgt := 20) C.1 C.2.1 dX6_set_1 (by decide) (fun c1 => ?_) (fun c1 => ?_)
  · replace h := ipos c1 h
    rw [← Option.some.inj h]
    exact rtV C X dX6_set_20
  · replace h := ineg c1 h
    refine lv_iload_n C.1 C.2.1 dX6_set_4 rfl (lv_at hl 1 rfl) ?_
    refine lv_aload_n C.1 C.2.1 dX6_set_5 rfl (lv_at hl 0 rfl) ?_
    refine gfX6 C G X (k := a0) hk_a0 0 (v := .ref (gB E + (a0 + 1))) rfl rfl (by decide) k_157 rfl dX6_set_6 ?_
    refine aln C G X (kf_1_1 hk_a0) dX6_set_9 ?_
    refine lv_icmp_ge (tgt := 20) C.1 C.2.1 dX6_set_10 (by decide) (fun c10 => ?_) (fun c10 => ?_)
    · replace h := ipos c10 h
      rw [← Option.some.inj h]
      exact rtV C X dX6_set_20
    · replace h := ineg c10 h
      refine lv_aload_n C.1 C.2.1 dX6_set_13 rfl (lv_at hl 0 rfl) ?_
      refine gfX6 C G X (k := a0) hk_a0 0 (v := .ref (gB E + (a0 + 1))) rfl rfl (by decide) k_157 rfl dX6_set_14 ?_
      refine lv_iload_n C.1 C.2.1 dX6_set_17 rfl (lv_at hl 1 rfl) ?_
      refine lv_iload_n C.1 C.2.1 dX6_set_18 rfl (lv_at hl 2 rfl) ?_
      obtain ⟨σ19, e19, h⟩ := bnd h
      refine ast C G X (k := (a0 + 1)) (kf_1_1 hk_a0) (au_s e19).1 dX6_set_19 (fun H locs X => ?_)
      rw [(au_s e19).2] at X
      rw [← Option.some.inj h]
      exact rtV C X dX6_set_20

theorem c_X6_set (l : Launch) (E : GE) {σ : Mem} {a0 : Nat} {x1 : Int32} {x2 : Int32} (hk_a0 : kd a0 = 1) {r : Mem} (h : X6_set a0 x1 x2 σ = some r) : CtV l E yX6_set cX6_set 3 1 [.ref (gB E + a0), .int x1, .int x2] σ r := by
  refine Met.ofW (cc := cX6_set) (maxL := 3) (ret := none) (by decide) rfl ?_
  intro p e s m args below meth c s₁ B hml hv
  obtain ⟨rfl, G, X⟩ := start hv
  have C := cxof B hml
  have hl := lv_entry [.ref (gB E + a0), .int x1, .int x2] (n := 3) (Nat.le_of_ble_eq_true rfl)
  rw [lg_entry_eq]
  generalize (lg_sl [.ref (gB E + a0), .int x1, .int x2] ++ List.replicate (3 - (lg_sl [.ref (gB E + a0), .int x1, .int x2]).length) Slot.unset).toArray = ls at hl ⊢
  exact w_X6_set C G X hk_a0 hl h

set_option maxRecDepth 20000 in
theorem w_X10_put_3 {r : Mem} (C : Cx p s m args meth c cX10_put none 3 RX10) (G : Gf E s) : ∀ (f : Nat) {x1 : Int32} {x2 : Int32} {σ : Mem} {ls : Array Slot} {H : Heap} {locs : List Loc}, Hx E σ s H locs → lv_has ls 3 [(0, .ref (gB E + 1)), (1, .int x1), (2, .int x2)] → X10_put_3 f x1 x2 σ = some r → W p l e (RM 2) s m args below meth c H locs 0 0 (QV E below args s r) (F0 m 3 ls []) := by
  intro f
  induction f with
  | zero =>
    intro x1 x2 σ ls H locs X hl h
    rw [X10_put_3] at h
    cases h
  | succ f ih =>
    intro x1 x2 σ ls H locs X hl h
    rw [X10_put_3] at h
    refine lv_iload_n C.1 C.2.1 dX10_put_3 rfl (lv_at hl 2 rfl) ?_
    refine lv_if_lt (tgt := 41) C.1 C.2.1 dX10_put_4 (by decide) (fun c4 => ?_) (fun c4 => ?_)
    · replace h := ipos c4 h
      rw [← Option.some.inj h]
      exact rtV C X dX10_put_41
    · replace h := ineg c4 h
      refine lv_aload_n C.1 C.2.1 dX10_put_7 rfl (lv_at hl 0 rfl) ?_
      refine gfX10 C G X (k := 1) kd_1 0 (v := .ref (gB E + 2)) rfl rfl (by decide) k_164 rfl dX10_put_8 ?_
      refine lv_aload_n C.1 C.2.1 dX10_put_11 rfl (lv_at hl 0 rfl) ?_
      refine gfX10 C G X (k := 1) kd_1 1 (v := .int (σ 1 1)) rfl rfl (by decide) k_166 rfl dX10_put_12 ?_
      refine lv_iload_n C.1 C.2.1 dX10_put_15 rfl (lv_at hl 1 rfl) ?_
      refine lv_iload_n C.1 C.2.1 dX10_put_16 rfl (lv_at hl 2 rfl) ?_
      refine lv_ishr C.1 C.2.1 dX10_put_17 ?_
      refine lv_sipush (v := 255) C.1 C.2.1 dX10_put_18 (by decide) ?_
      refine lv_iand C.1 C.2.1 dX10_put_21 ?_
      obtain ⟨σ22, e22, h⟩ := bnd h
      refine afV X (runV C G X q_X6_set k_451 k_452 k_450 (rcX6 G X kd_2) (c_X6_set l E kd_2 e22) rfl hl.1 rfl (Nat.le_of_ble_eq_true rfl) ⟨Nat.le_of_ble_eq_true rfl, Nat.le_of_ble_eq_true rfl⟩ ⟨Nat.le_of_ble_eq_true rfl, Nat.le_of_ble_eq_true rfl⟩ dX10_put_22) (fun H locs X => ?_)
      refine lv_aload_n C.1 C.2.1 dX10_put_25 rfl (lv_at hl 0 rfl) ?_
      refine lv_dup C.1 C.2.1 dX10_put_26 rfl ?_
      refine gfX10 C G X (k := 1) kd_1 1 (v := .int (σ22 1 1)) rfl rfl (by decide) k_166 rfl dX10_put_27 ?_
      refine lv_iconst (v := 1) C.1 C.2.1 dX10_put_30 (by decide) ?_
      refine lv_iadd C.1 C.2.1 dX10_put_31 ?_
      obtain ⟨σ32, e32, h⟩ := bnd h
      refine pfX10 C G X (k := 1) kd_1 1 (x := ((σ22 1 1) + (1 : Int32))) (ty := .int) rfl rfl (Nat.le_of_ble_eq_true rfl) (by decide) k_166 rfl rfl (by decide +kernel) rfl rfl dX10_put_32 (fun H locs X => ?_)
      replace X := pu_x e32 X
      refine lv_iinc (v := (x2 + (-8))) (lv' := [(2, .int (x2 + (-8))), (0, .ref (gB E + 1)), (1, .int x1)]) C.1 C.2.1 dX10_put_35 hl (k := 2) rfl rfl (by decide) rfl (fun ls hl => ?_)
      refine lv_goto (tgt := 3) C.1 C.2.1 dX10_put_38 (by decide) ?_
      exact ih X (lv_sub hl [1, 2, 0] rfl) h

set_option maxRecDepth 20000 in
theorem w_X10_put {r : Mem} {σ : Mem} {x1 : Int32} {ls : Array Slot} {H : Heap} {locs : List Loc} (C : Cx p s m args meth c cX10_put none 3 RX10) (G : Gf E s) (X : Hx E σ s H locs) (hl : lv_has ls 3 [(0, .ref (gB E + 1)), (1, .int x1)]) (h : X10_put x1 σ = some r) : W p l e (RM 2) s m args below meth c H locs 0 0 (QV E below args s r) (F0 m 0 ls []) := by
  rw [X10_put] at h
  refine lv_bipush (v := 24) C.1 C.2.1 dX10_put_0 (by decide) ?_
  refine lv_istore_n (lv' := [(2, .int (24 : Int32)), (0, .ref (gB E + 1)), (1, .int x1)]) C.1 C.2.1 dX10_put_2 rfl hl (by decide) rfl (fun ls hl => ?_)
  exact w_X10_put_3 C G FU X (lv_sub hl [1, 2, 0] rfl) h

theorem c_X10_put (l : Launch) (E : GE) {σ : Mem} {x1 : Int32} {r : Mem} (h : X10_put x1 σ = some r) : CtV l E yX10_put cX10_put 3 2 [.ref (gB E + 1), .int x1] σ r := by
  refine Met.ofW (cc := cX10_put) (maxL := 3) (ret := none) (by decide) rfl ?_
  intro p e s m args below meth c s₁ B hml hv
  obtain ⟨rfl, G, X⟩ := start hv
  have C := cxof B hml
  have hl := lv_entry [.ref (gB E + 1), .int x1] (n := 3) (Nat.le_of_ble_eq_true rfl)
  rw [lg_entry_eq]
  generalize (lg_sl [.ref (gB E + 1), .int x1] ++ List.replicate (3 - (lg_sl [.ref (gB E + 1), .int x1]).length) Slot.unset).toArray = ls at hl ⊢
  exact w_X10_put C G X hl h

set_option maxRecDepth 20000 in
theorem w_X11_feed {r : (Int32 × Mem)} {σ : Mem} {x1 : Int32} {x2 : Int32} {x3 : Int32} {x4 : Int32} {x5 : Int32} {ls : Array Slot} {H : Heap} {locs : List Loc} (C : Cx p s m args meth c cX11_feed (some .int) 6 RX11) (G : Gf E s) (X : Hx E σ s H locs) (hl : lv_has ls 6 [(0, .ref (gB E + 0)), (1, .int x1), (2, .int x2), (3, .int x3), (4, .int x4), (5, .int x5)]) (h : X11_feed x1 x2 x3 x4 x5 σ = some r) : W p l e (RM 3) s m args below meth c H locs 0 0 (QI E below args s r.1 r.2) (F0 m 0 ls []) := by
  rw [X11_feed] at h
  refine lv_aload_n C.1 C.2.1 dX11_feed_0 rfl (lv_at hl 0 rfl) ?_
  refine gfX11 C G X (k := 0) kd_0 0 (v := .ref (gB E + 1)) rfl rfl (by decide) k_405 rfl dX11_feed_1 ?_
  refine gfX10 C G X (k := 1) kd_1 1 (v := .int (σ 1 1)) rfl rfl (by decide) k_165 rfl dX11_feed_4 ?_
  refine lv_sipush (v := 380) C.1 C.2.1 dX11_feed_7 (by decide) ?_
  refine lv_icmp_le (tgt := 15) C.1 C.2.1 dX11_feed_10 (by decide) (fun c10 => ?_) (fun c10 => ?_)
  · replace h := ipos c10 h
    refine lv_aload_n C.1 C.2.1 dX11_feed_15 rfl (lv_at hl 0 rfl) ?_
    refine gfX11 C G X (k := 0) kd_0 0 (v := .ref (gB E + 1)) rfl rfl (by decide) k_405 rfl dX11_feed_16 ?_
    refine lv_iload_n C.1 C.2.1 dX11_feed_19 rfl (lv_at hl 1 rfl) ?_
    obtain ⟨σ20, e20, h⟩ := bnd h
    refine afV X (runV C G X q_X10_put k_447 k_448 k_446 (rcX10 G X kd_1) (c_X10_put l E e20) rfl hl.1 rfl (Nat.le_of_ble_eq_true rfl) ⟨Nat.le_of_ble_eq_true rfl, Nat.le_of_ble_eq_true rfl⟩ ⟨Nat.le_of_ble_eq_true rfl, Nat.le_of_ble_eq_true rfl⟩ dX11_feed_20) (fun H locs X => ?_)
    refine lv_aload_n C.1 C.2.1 dX11_feed_23 rfl (lv_at hl 0 rfl) ?_
    refine gfX11 C G X (k := 0) kd_0 0 (v := .ref (gB E + 1)) rfl rfl (by decide) k_405 rfl dX11_feed_24 ?_
    refine lv_iload_n C.1 C.2.1 dX11_feed_27 rfl (lv_at hl 2 rfl) ?_
    obtain ⟨σ28, e28, h⟩ := bnd h
    refine afV X (runV C G X q_X10_put k_447 k_448 k_446 (rcX10 G X kd_1) (c_X10_put l E e28) rfl hl.1 rfl (Nat.le_of_ble_eq_true rfl) ⟨Nat.le_of_ble_eq_true rfl, Nat.le_of_ble_eq_true rfl⟩ ⟨Nat.le_of_ble_eq_true rfl, Nat.le_of_ble_eq_true rfl⟩ dX11_feed_28) (fun H locs X => ?_)
    refine lv_aload_n C.1 C.2.1 dX11_feed_31 rfl (lv_at hl 0 rfl) ?_
    refine gfX11 C G X (k := 0) kd_0 0 (v := .ref (gB E + 1)) rfl rfl (by decide) k_405 rfl dX11_feed_32 ?_
    refine lv_iload_n C.1 C.2.1 dX11_feed_35 rfl (lv_at hl 3 rfl) ?_
    obtain ⟨σ36, e36, h⟩ := bnd h
    refine afV X (runV C G X q_X10_put k_447 k_448 k_446 (rcX10 G X kd_1) (c_X10_put l E e36) rfl hl.1 rfl (Nat.le_of_ble_eq_true rfl) ⟨Nat.le_of_ble_eq_true rfl, Nat.le_of_ble_eq_true rfl⟩ ⟨Nat.le_of_ble_eq_true rfl, Nat.le_of_ble_eq_true rfl⟩ dX11_feed_36) (fun H locs X => ?_)
    refine lv_aload_n C.1 C.2.1 dX11_feed_39 rfl (lv_at hl 0 rfl) ?_
    refine gfX11 C G X (k := 0) kd_0 0 (v := .ref (gB E + 1)) rfl rfl (by decide) k_405 rfl dX11_feed_40 ?_
    refine lv_iload C.1 C.2.1 dX11_feed_43 (lv_at hl 4 rfl) ?_
    obtain ⟨σ45, e45, h⟩ := bnd h
    refine afV X (runV C G X q_X10_put k_447 k_448 k_446 (rcX10 G X kd_1) (c_X10_put l E e45) rfl hl.1 rfl (Nat.le_of_ble_eq_true rfl) ⟨Nat.le_of_ble_eq_true rfl, Nat.le_of_ble_eq_true rfl⟩ ⟨Nat.le_of_ble_eq_true rfl, Nat.le_of_ble_eq_true rfl⟩ dX11_feed_45) (fun H locs X => ?_)
    refine lv_aload_n C.1 C.2.1 dX11_feed_48 rfl (lv_at hl 0 rfl) ?_
    refine gfX11 C G X (k := 0) kd_0 0 (v := .ref (gB E + 1)) rfl rfl (by decide) k_405 rfl dX11_feed_49 ?_
    refine lv_iload C.1 C.2.1 dX11_feed_52 (lv_at hl 5 rfl) ?_
    obtain ⟨σ54, e54, h⟩ := bnd h
    refine afV X (runV C G X q_X10_put k_447 k_448 k_446 (rcX10 G X kd_1) (c_X10_put l E e54) rfl hl.1 rfl (Nat.le_of_ble_eq_true rfl) ⟨Nat.le_of_ble_eq_true rfl, Nat.le_of_ble_eq_true rfl⟩ ⟨Nat.le_of_ble_eq_true rfl, Nat.le_of_ble_eq_true rfl⟩ dX11_feed_54) (fun H locs X => ?_)
    refine lv_aload_n C.1 C.2.1 dX11_feed_57 rfl (lv_at hl 0 rfl) ?_
    refine gfX11 C G X (k := 0) kd_0 0 (v := .ref (gB E + 1)) rfl rfl (by decide) k_405 rfl dX11_feed_58 ?_
    refine gfX10 C G X (k := 1) kd_1 1 (v := .int (σ54 1 1)) rfl rfl (by decide) k_165 rfl dX11_feed_61 ?_
    rw [← Option.some.inj h]
    exact rtI C X dX11_feed_64
  · replace h := ineg c10 h
    refine lv_iconst (v := -1) C.1 C.2.1 dX11_feed_13 (by decide) ?_
    rw [← Option.some.inj h]
    exact rtI C X dX11_feed_14

theorem c_X11_feed (l : Launch) (E : GE) {σ : Mem} {x1 : Int32} {x2 : Int32} {x3 : Int32} {x4 : Int32} {x5 : Int32} {r : (Int32 × Mem)} (h : X11_feed x1 x2 x3 x4 x5 σ = some r) : CtI l E yX11_feed cX11_feed 6 .int 3 [.ref (gB E + 0), .int x1, .int x2, .int x3, .int x4, .int x5] σ r.1 r.2 := by
  refine Met.ofW (cc := cX11_feed) (maxL := 6) (ret := (some .int)) (by decide) rfl ?_
  intro p e s m args below meth c s₁ B hml hv
  obtain ⟨rfl, G, X⟩ := start hv
  have C := cxof B hml
  have hl := lv_entry [.ref (gB E + 0), .int x1, .int x2, .int x3, .int x4, .int x5] (n := 6) (Nat.le_of_ble_eq_true rfl)
  rw [lg_entry_eq]
  generalize (lg_sl [.ref (gB E + 0), .int x1, .int x2, .int x3, .int x4, .int x5] ++ List.replicate (6 - (lg_sl [.ref (gB E + 0), .int x1, .int x2, .int x3, .int x4, .int x5]).length) Slot.unset).toArray = ls at hl ⊢
  exact w_X11_feed C G X hl h

set_option maxRecDepth 20000 in
theorem w_X11_end {r : (Int32 × Mem)} {σ : Mem} {x1 : Int32} {ls : Array Slot} {H : Heap} {locs : List Loc} (C : Cx p s m args meth c cX11_end (some .boolean) 2 RX11) (G : Gf E s) (X : Hx E σ s H locs) (hl : lv_has ls 2 [(0, .ref (gB E + 0)), (1, .int x1)]) (h : X11_end x1 σ = some r) : W p l e (RM 1) s m args below meth c H locs 0 0 (QI E below args s r.1 r.2) (F0 m 0 ls []) := by
  rw [X11_end] at h
  refine lv_iload_n C.1 C.2.1 dX11_end_0 rfl (lv_at hl 1 rfl) ?_
  refine lv_if_lt (tgt := 15) C.1 C.2.1 dX11_end_1 (by decide) (fun c1 => ?_) (fun c1 => ?_)
  · replace h := ipos c1 h
    refine lv_iconst (v := 0) C.1 C.2.1 dX11_end_15 (by decide) ?_
    obtain ⟨u16, z16, h⟩ := bnd h
    rw [← Option.some.inj h]
    exact rtZ C X (gb_s z16) dX11_end_16
  · replace h := ineg c1 h
    refine lv_iload_n C.1 C.2.1 dX11_end_4 rfl (lv_at hl 1 rfl) ?_
    refine lv_aload_n C.1 C.2.1 dX11_end_5 rfl (lv_at hl 0 rfl) ?_
    refine gfX11 C G X (k := 0) kd_0 0 (v := .ref (gB E + 1)) rfl rfl (by decide) k_405 rfl dX11_end_6 ?_
    refine gfX10 C G X (k := 1) kd_1 1 (v := .int (σ 1 1)) rfl rfl (by decide) k_165 rfl dX11_end_9 ?_
    refine lv_icmp_le (tgt := 17) C.1 C.2.1 dX11_end_12 (by decide) (fun c12 => ?_) (fun c12 => ?_)
    · replace h := ipos c12 h
      refine lv_aload_n C.1 C.2.1 dX11_end_17 rfl (lv_at hl 0 rfl) ?_
      refine gfX11 C G X (k := 0) kd_0 0 (v := .ref (gB E + 1)) rfl rfl (by decide) k_405 rfl dX11_end_18 ?_
      refine lv_iload_n C.1 C.2.1 dX11_end_21 rfl (lv_at hl 1 rfl) ?_
      obtain ⟨σ22, e22, h⟩ := bnd h
      refine pfX10 C G X (k := 1) kd_1 1 (x := x1) (ty := .int) rfl rfl (Nat.le_of_ble_eq_true rfl) (by decide) k_165 rfl rfl (by decide +kernel) rfl rfl dX11_end_22 (fun H locs X => ?_)
      replace X := pu_x e22 X
      refine lv_iconst (v := 1) C.1 C.2.1 dX11_end_25 (by decide) ?_
      obtain ⟨u26, z26, h⟩ := bnd h
      rw [← Option.some.inj h]
      exact rtZ C X (gb_s z26) dX11_end_26
    · replace h := ineg c12 h
      refine lv_iconst (v := 0) C.1 C.2.1 dX11_end_15 (by decide) ?_
      obtain ⟨u16, z16, h⟩ := bnd h
      rw [← Option.some.inj h]
      exact rtZ C X (gb_s z16) dX11_end_16

theorem c_X11_end (l : Launch) (E : GE) {σ : Mem} {x1 : Int32} {r : (Int32 × Mem)} (h : X11_end x1 σ = some r) : CtI l E yX11_end cX11_end 2 .boolean 1 [.ref (gB E + 0), .int x1] σ r.1 r.2 := by
  refine Met.ofW (cc := cX11_end) (maxL := 2) (ret := (some .boolean)) (by decide) rfl ?_
  intro p e s m args below meth c s₁ B hml hv
  obtain ⟨rfl, G, X⟩ := start hv
  have C := cxof B hml
  have hl := lv_entry [.ref (gB E + 0), .int x1] (n := 2) (Nat.le_of_ble_eq_true rfl)
  rw [lg_entry_eq]
  generalize (lg_sl [.ref (gB E + 0), .int x1] ++ List.replicate (2 - (lg_sl [.ref (gB E + 0), .int x1]).length) Slot.unset).toArray = ls at hl ⊢
  exact w_X11_end C G X hl h

set_option maxRecDepth 20000 in
theorem w_X10_useUp {r : (Int32 × Mem)} {σ : Mem} {ls : Array Slot} {H : Heap} {locs : List Loc} (C : Cx p s m args meth c cX10_useUp (some .int) 2 RX10) (G : Gf E s) (X : Hx E σ s H locs) (hl : lv_has ls 2 [(0, .ref (gB E + 1))]) (h : X10_useUp σ = some r) : W p l e (RM 1) s m args below meth c H locs 0 0 (QI E below args s r.1 r.2) (F0 m 0 ls []) := by
  rw [X10_useUp] at h
  refine lv_aload_n C.1 C.2.1 dX10_useUp_0 rfl (lv_at hl 0 rfl) ?_
  refine gfX10 C G X (k := 1) kd_1 1 (v := .int (σ 1 1)) rfl rfl (by decide) k_166 rfl dX10_useUp_1 ?_
  refine lv_istore_n (lv' := [(1, .int (σ 1 1)), (0, .ref (gB E + 1))]) C.1 C.2.1 dX10_useUp_4 rfl hl (by decide) rfl (fun ls hl => ?_)
  refine lv_aload_n C.1 C.2.1 dX10_useUp_5 rfl (lv_at hl 1 rfl) ?_
  refine lv_iconst (v := 0) C.1 C.2.1 dX10_useUp_6 (by decide) ?_
  obtain ⟨σ7, e7, h⟩ := bnd h
  refine pfX10 C G X (k := 1) kd_1 1 (x := (0 : Int32)) (ty := .int) rfl rfl (Nat.le_of_ble_eq_true rfl) (by decide) k_166 rfl rfl (by decide +kernel) rfl rfl dX10_useUp_7 (fun H locs X => ?_)
  replace X := pu_x e7 X
  refine lv_iload_n C.1 C.2.1 dX10_useUp_10 rfl (lv_at hl 0 rfl) ?_
  rw [← Option.some.inj h]
  exact rtI C X dX10_useUp_11

theorem c_X10_useUp (l : Launch) (E : GE) {σ : Mem} {r : (Int32 × Mem)} (h : X10_useUp σ = some r) : CtI l E yX10_useUp cX10_useUp 2 .int 1 [.ref (gB E + 1)] σ r.1 r.2 := by
  refine Met.ofW (cc := cX10_useUp) (maxL := 2) (ret := (some .int)) (by decide) rfl ?_
  intro p e s m args below meth c s₁ B hml hv
  obtain ⟨rfl, G, X⟩ := start hv
  have C := cxof B hml
  have hl := lv_entry [.ref (gB E + 1)] (n := 2) (Nat.le_of_ble_eq_true rfl)
  rw [lg_entry_eq]
  generalize (lg_sl [.ref (gB E + 1)] ++ List.replicate (2 - (lg_sl [.ref (gB E + 1)]).length) Slot.unset).toArray = ls at hl ⊢
  exact w_X10_useUp C G X hl h

set_option maxRecDepth 20000 in
theorem w_X6_get {r : Int32} {σ : Mem} {a0 : Nat} {x1 : Int32} {ls : Array Slot} {H : Heap} {locs : List Loc} (C : Cx p s m args meth c cX6_get (some .int) 2 RX6) (G : Gf E s) (X : Hx E σ s H locs) (hk_a0 : kd a0 = 1) (hl : lv_has ls 2 [(0, .ref (gB E + a0)), (1, .int x1)]) (h : X6_get σ a0 x1 = some r) : W p l e (RM 1) s m args below meth c H locs 0 0 (QI E below args s r σ) (F0 m 0 ls []) := by
  rw [X6_get] at h
  refine lv_iload_n C.1 C.2.1 dX6_get_0 rfl (lv_at hl 1 rfl) ?_
  refine lv_if_lt (tgt := 22) C.1 C.2.1 dX6_get_1 (by decide) (fun c1 => ?_) (fun c1 => ?_)
  · replace h := ipos c1 h
    refine lv_iconst (v := 0) C.1 C.2.1 dX6_get_22 (by decide) ?_
    rw [← Option.some.inj h]
    exact rtI C X dX6_get_23
  · replace h := ineg c1 h
    refine lv_iload_n C.1 C.2.1 dX6_get_4 rfl (lv_at hl 1 rfl) ?_
    refine lv_aload_n C.1 C.2.1 dX6_get_5 rfl (lv_at hl 0 rfl) ?_
    refine gfX6 C G X (k := a0) hk_a0 0 (v := .ref (gB E + (a0 + 1))) rfl rfl (by decide) k_157 rfl dX6_get_6 ?_
    refine aln C G X (kf_1_1 hk_a0) dX6_get_9 ?_
    refine lv_icmp_ge (tgt := 22) C.1 C.2.1 dX6_get_10 (by decide) (fun c10 => ?_) (fun c10 => ?_)
    · replace h := ipos c10 h
      refine lv_iconst (v := 0) C.1 C.2.1 dX6_get_22 (by decide) ?_
      rw [← Option.some.inj h]
      exact rtI C X dX6_get_23
    · replace h := ineg c10 h
      refine lv_aload_n C.1 C.2.1 dX6_get_13 rfl (lv_at hl 0 rfl) ?_
      refine gfX6 C G X (k := a0) hk_a0 0 (v := .ref (gB E + (a0 + 1))) rfl rfl (by decide) k_157 rfl dX6_get_14 ?_
      refine lv_iload_n C.1 C.2.1 dX6_get_17 rfl (lv_at hl 1 rfl) ?_
      obtain ⟨r18, e18, h⟩ := bnd h
      refine ald C G X (k := (a0 + 1)) (kf_1_1 hk_a0) (ag_s e18).1 dX6_get_18 ?_
      rw [(ag_s e18).2]
      refine lv_goto (tgt := 23) C.1 C.2.1 dX6_get_19 (by decide) ?_
      rw [← Option.some.inj h]
      exact rtI C X dX6_get_23

theorem c_X6_get (l : Launch) (E : GE) {σ : Mem} {a0 : Nat} {x1 : Int32} (hk_a0 : kd a0 = 1) {r : Int32} (h : X6_get σ a0 x1 = some r) : CtI l E yX6_get cX6_get 2 .int 1 [.ref (gB E + a0), .int x1] σ r σ := by
  refine Met.ofW (cc := cX6_get) (maxL := 2) (ret := (some .int)) (by decide) rfl ?_
  intro p e s m args below meth c s₁ B hml hv
  obtain ⟨rfl, G, X⟩ := start hv
  have C := cxof B hml
  have hl := lv_entry [.ref (gB E + a0), .int x1] (n := 2) (Nat.le_of_ble_eq_true rfl)
  rw [lg_entry_eq]
  generalize (lg_sl [.ref (gB E + a0), .int x1] ++ List.replicate (2 - (lg_sl [.ref (gB E + a0), .int x1]).length) Slot.unset).toArray = ls at hl ⊢
  exact w_X6_get C G X hk_a0 hl h

set_option maxRecDepth 20000 in
theorem w_X10_behindBlanks_2 {r : Int32} {σ : Mem} (C : Cx p s m args meth c cX10_behindBlanks (some .int) 4 RX10) (G : Gf E s) : ∀ (f : Nat) {x2 : Int32} {x3 : Int32} {ls : Array Slot} {H : Heap} {locs : List Loc}, Hx E σ s H locs → lv_has ls 4 [(0, .ref (gB E + 1)), (2, .int x2), (3, .int x3)] → X10_behindBlanks_2 σ f x2 x3 = some r → W p l e (RM 2) s m args below meth c H locs 0 0 (QI E below args s r σ) (F0 m 2 ls []) := by
  intro f
  induction f with
  | zero =>
    intro x2 x3 ls H locs X hl h
    rw [X10_behindBlanks_2] at h
    cases h
  | succ f ih =>
    intro x2 x3 ls H locs X hl h
    rw [X10_behindBlanks_2] at h
    refine lv_iload_n C.1 C.2.1 dX10_behindBlanks_2 rfl (lv_at hl 2 rfl) ?_
    refine lv_iload_n C.1 C.2.1 dX10_behindBlanks_3 rfl (lv_at hl 1 rfl) ?_
    refine lv_icmp_ge (tgt := 26) C.1 C.2.1 dX10_behindBlanks_4 (by decide) (fun c4 => ?_) (fun c4 => ?_)
    · replace h := ipos c4 h
      refine lv_iload_n C.1 C.2.1 dX10_behindBlanks_26 rfl (lv_at hl 2 rfl) ?_
      rw [← Option.some.inj h]
      exact rtI C X dX10_behindBlanks_27
    · replace h := ineg c4 h
      refine lv_aload_n C.1 C.2.1 dX10_behindBlanks_7 rfl (lv_at hl 0 rfl) ?_
      refine gfX10 C G X (k := 1) kd_1 0 (v := .ref (gB E + 2)) rfl rfl (by decide) k_164 rfl dX10_behindBlanks_8 ?_
      refine lv_iload_n C.1 C.2.1 dX10_behindBlanks_11 rfl (lv_at hl 2 rfl) ?_
      obtain ⟨r12, e12, h⟩ := bnd h
      refine afI X (runV C G X q_X6_get k_498 k_499 k_815 (rcX6 G X kd_2) (c_X6_get l E kd_2 e12) rfl hl.1 rfl (Nat.le_of_ble_eq_true rfl) ⟨Nat.le_of_ble_eq_true rfl, Nat.le_of_ble_eq_true rfl⟩ ⟨Nat.le_of_ble_eq_true rfl, Nat.le_of_ble_eq_true rfl⟩ dX10_behindBlanks_12) (fun H locs X => ?_)
      refine lv_bipush (v := 32) C.1 C.2.1 dX10_behindBlanks_15 (by decide) ?_
      refine lv_icmp_ne (tgt := 26) C.1 C.2.1 dX10_behindBlanks_17 (by decide) (fun c17 => ?_) (fun c17 => ?_)
      · replace h := ineg c17 h
        refine lv_iload_n C.1 C.2.1 dX10_behindBlanks_26 rfl (lv_at hl 2 rfl) ?_
        rw [← Option.some.inj h]
        exact rtI C X dX10_behindBlanks_27
      · replace h := ipos c17 h
        refine lv_iinc (v := (x3 + 1)) (lv' := [(3, .int (x3 + 1)), (0, .ref (gB E + 1)), (2, .int x2)]) C.1 C.2.1 dX10_behindBlanks_20 hl (k := 2) rfl rfl (by decide) rfl (fun ls hl => ?_)
        refine lv_goto (tgt := 2) C.1 C.2.1 dX10_behindBlanks_23 (by decide) ?_
        exact ih X (lv_sub hl [1, 2, 0] rfl) h

set_option maxRecDepth 20000 in
theorem w_X10_behindBlanks {r : Int32} {σ : Mem} {x1 : Int32} {x2 : Int32} {ls : Array Slot} {H : Heap} {locs : List Loc} (C : Cx p s m args meth c cX10_behindBlanks (some .int) 4 RX10) (G : Gf E s) (X : Hx E σ s H locs) (hl : lv_has ls 4 [(0, .ref (gB E + 1)), (1, .int x1), (2, .int x2)]) (h : X10_behindBlanks σ x1 x2 = some r) : W p l e (RM 2) s m args below meth c H locs 0 0 (QI E below args s r σ) (F0 m 0 ls []) := by
  rw [X10_behindBlanks] at h
  refine lv_iload_n C.1 C.2.1 dX10_behindBlanks_0 rfl (lv_at hl 1 rfl) ?_
  refine lv_istore_n (lv' := [(3, .int x1), (0, .ref (gB E + 1)), (1, .int x1), (2, .int x2)]) C.1 C.2.1 dX10_behindBlanks_1 rfl hl (by decide) rfl (fun ls hl => ?_)
  exact w_X10_behindBlanks_2 C G FU X (lv_sub hl [1, 3, 0] rfl) h

theorem c_X10_behindBlanks (l : Launch) (E : GE) {σ : Mem} {x1 : Int32} {x2 : Int32} {r : Int32} (h : X10_behindBlanks σ x1 x2 = some r) : CtI l E yX10_behindBlanks cX10_behindBlanks 4 .int 2 [.ref (gB E + 1), .int x1, .int x2] σ r σ := by
  refine Met.ofW (cc := cX10_behindBlanks) (maxL := 4) (ret := (some .int)) (by decide) rfl ?_
  intro p e s m args below meth c s₁ B hml hv
  obtain ⟨rfl, G, X⟩ := start hv
  have C := cxof B hml
  have hl := lv_entry [.ref (gB E + 1), .int x1, .int x2] (n := 4) (Nat.le_of_ble_eq_true rfl)
  rw [lg_entry_eq]
  generalize (lg_sl [.ref (gB E + 1), .int x1, .int x2] ++ List.replicate (4 - (lg_sl [.ref (gB E + 1), .int x1, .int x2]).length) Slot.unset).toArray = ls at hl ⊢
  exact w_X10_behindBlanks C G X hl h

set_option maxRecDepth 20000 in
theorem w_X10_kindOf_14 {r : Int32} {σ : Mem} {x0 : Int32} {ls : Array Slot} {H : Heap} {locs : List Loc} (C : Cx p s m args meth c cX10_kindOf (some .int) 1 RX10) (G : Gf E s) (X : Hx E σ s H locs) (hl : lv_has ls 1 [(0, .int x0)]) (h : X10_kindOf_14 σ x0 = some r) : W p l e (RM 1) s m args below meth c H locs 0 0 (QI E below args s r σ) (F0 m 14 ls []) := by
  rw [X10_kindOf_14] at h
  refine lv_iload_n C.1 C.2.1 dX10_kindOf_14 rfl (lv_at hl 0 rfl) ?_
  refine lv_bipush (v := 48) C.1 C.2.1 dX10_kindOf_15 (by decide) ?_
  refine lv_icmp_lt (tgt := 30) C.1 C.2.1 dX10_kindOf_17 (by decide) (fun c17 => ?_) (fun c17 => ?_)
  · replace h := ipos c17 h
    refine lv_iconst (v := 0) C.1 C.2.1 dX10_kindOf_30 (by decide) ?_
    rw [← Option.some.inj h]
    exact rtI C X dX10_kindOf_31
  · replace h := ineg c17 h
    refine lv_iload_n C.1 C.2.1 dX10_kindOf_20 rfl (lv_at hl 0 rfl) ?_
    refine lv_bipush (v := 57) C.1 C.2.1 dX10_kindOf_21 (by decide) ?_
    refine lv_icmp_gt (tgt := 30) C.1 C.2.1 dX10_kindOf_23 (by decide) (fun c23 => ?_) (fun c23 => ?_)
    · replace h := ipos c23 h
      refine lv_iconst (v := 0) C.1 C.2.1 dX10_kindOf_30 (by decide) ?_
      rw [← Option.some.inj h]
      exact rtI C X dX10_kindOf_31
    · replace h := ineg c23 h
      refine lv_iconst (v := 2) C.1 C.2.1 dX10_kindOf_26 (by decide) ?_
      refine lv_goto (tgt := 31) C.1 C.2.1 dX10_kindOf_27 (by decide) ?_
      rw [← Option.some.inj h]
      exact rtI C X dX10_kindOf_31

set_option maxRecDepth 20000 in
theorem w_X10_kindOf {r : Int32} {σ : Mem} {x0 : Int32} {ls : Array Slot} {H : Heap} {locs : List Loc} (C : Cx p s m args meth c cX10_kindOf (some .int) 1 RX10) (G : Gf E s) (X : Hx E σ s H locs) (hl : lv_has ls 1 [(0, .int x0)]) (h : X10_kindOf σ x0 = some r) : W p l e (RM 1) s m args below meth c H locs 0 0 (QI E below args s r σ) (F0 m 0 ls []) := by
  rw [X10_kindOf] at h
  refine lv_iload_n C.1 C.2.1 dX10_kindOf_0 rfl (lv_at hl 0 rfl) ?_
  refine lv_bipush (v := 97) C.1 C.2.1 dX10_kindOf_1 (by decide) ?_
  refine lv_icmp_lt (tgt := 14) C.1 C.2.1 dX10_kindOf_3 (by decide) (fun c3 => ?_) (fun c3 => ?_)
  · replace h := ipos c3 h
    exact w_X10_kindOf_14 C G X (lv_sub hl [0] rfl) h
  · replace h := ineg c3 h
    refine lv_iload_n C.1 C.2.1 dX10_kindOf_6 rfl (lv_at hl 0 rfl) ?_
    refine lv_bipush (v := 122) C.1 C.2.1 dX10_kindOf_7 (by decide) ?_
    refine lv_icmp_gt (tgt := 14) C.1 C.2.1 dX10_kindOf_9 (by decide) (fun c9 => ?_) (fun c9 => ?_)
    · replace h := ipos c9 h
      exact w_X10_kindOf_14 C G X (lv_sub hl [0] rfl) h
    · replace h := ineg c9 h
      refine lv_iconst (v := 1) C.1 C.2.1 dX10_kindOf_12 (by decide) ?_
      rw [← Option.some.inj h]
      exact rtI C X dX10_kindOf_13

theorem c_X10_kindOf (l : Launch) (E : GE) {σ : Mem} {x0 : Int32} {r : Int32} (h : X10_kindOf σ x0 = some r) : CtI l E yX10_kindOf cX10_kindOf 1 .int 1 [.int x0] σ r σ := by
  refine Met.ofW (cc := cX10_kindOf) (maxL := 1) (ret := (some .int)) (by decide) rfl ?_
  intro p e s m args below meth c s₁ B hml hv
  obtain ⟨rfl, G, X⟩ := start hv
  have C := cxof B hml
  have hl := lv_entry [.int x0] (n := 1) (Nat.le_of_ble_eq_true rfl)
  rw [lg_entry_eq]
  generalize (lg_sl [.int x0] ++ List.replicate (1 - (lg_sl [.int x0]).length) Slot.unset).toArray = ls at hl ⊢
  exact w_X10_kindOf C G X hl h

set_option maxRecDepth 20000 in
theorem w_X10_behindTerm_21 {r : Int32} {σ : Mem} (C : Cx p s m args meth c cX10_behindTerm (some .int) 5 RX10) (G : Gf E s) : ∀ (f : Nat) {x2 : Int32} {x3 : Int32} {x4 : Int32} {ls : Array Slot} {H : Heap} {locs : List Loc}, Hx E σ s H locs → lv_has ls 5 [(0, .ref (gB E + 1)), (2, .int x2), (3, .int x3), (4, .int x4)] → X10_behindTerm_21 σ f x2 x3 x4 = some r → W p l e (RM 2) s m args below meth c H locs 0 0 (QI E below args s r σ) (F0 m 21 ls []) := by
  intro f
  induction f with
  | zero =>
    intro x2 x3 x4 ls H locs X hl h
    rw [X10_behindTerm_21] at h
    cases h
  | succ f ih =>
    intro x2 x3 x4 ls H locs X hl h
    rw [X10_behindTerm_21] at h
    refine lv_iload C.1 C.2.1 dX10_behindTerm_21 (lv_at hl 3 rfl) ?_
    refine lv_iload_n C.1 C.2.1 dX10_behindTerm_23 rfl (lv_at hl 1 rfl) ?_
    refine lv_icmp_ge (tgt := 53) C.1 C.2.1 dX10_behindTerm_24 (by decide) (fun c24 => ?_) (fun c24 => ?_)
    · replace h := ipos c24 h
      refine lv_iload C.1 C.2.1 dX10_behindTerm_53 (lv_at hl 3 rfl) ?_
      rw [← Option.some.inj h]
      exact rtI C X dX10_behindTerm_55
    · replace h := ineg c24 h
      refine lv_iload_n C.1 C.2.1 dX10_behindTerm_27 rfl (lv_at hl 2 rfl) ?_
      refine lv_if_eq (tgt := 53) C.1 C.2.1 dX10_behindTerm_28 (by decide) (fun c28 => ?_) (fun c28 => ?_)
      · replace h := ipos c28 h
        refine lv_iload C.1 C.2.1 dX10_behindTerm_53 (lv_at hl 3 rfl) ?_
        rw [← Option.some.inj h]
        exact rtI C X dX10_behindTerm_55
      · replace h := ineg c28 h
        refine lv_aload_n C.1 C.2.1 dX10_behindTerm_31 rfl (lv_at hl 0 rfl) ?_
        refine gfX10 C G X (k := 1) kd_1 0 (v := .ref (gB E + 2)) rfl rfl (by decide) k_164 rfl dX10_behindTerm_32 ?_
        refine lv_iload C.1 C.2.1 dX10_behindTerm_35 (lv_at hl 3 rfl) ?_
        obtain ⟨r37, e37, h⟩ := bnd h
        refine afI X (runV C G X q_X6_get k_498 k_499 k_815 (rcX6 G X kd_2) (c_X6_get l E kd_2 e37) rfl hl.1 rfl (Nat.le_of_ble_eq_true rfl) ⟨Nat.le_of_ble_eq_true rfl, Nat.le_of_ble_eq_true rfl⟩ ⟨Nat.le_of_ble_eq_true rfl, Nat.le_of_ble_eq_true rfl⟩ dX10_behindTerm_37) (fun H locs X => ?_)
        obtain ⟨r40, e40, h⟩ := bnd h
        refine afI X (runS C G X q_X10_kindOf k_821 k_820 (c_X10_kindOf l E e40) rfl hl.1 rfl (Nat.le_of_ble_eq_true rfl) ⟨Nat.le_of_ble_eq_true rfl, Nat.le_of_ble_eq_true rfl⟩ ⟨Nat.le_of_ble_eq_true rfl, Nat.le_of_ble_eq_true rfl⟩ dX10_behindTerm_40) (fun H locs X => ?_)
        refine lv_iload_n C.1 C.2.1 dX10_behindTerm_43 rfl (lv_at hl 2 rfl) ?_
        refine lv_icmp_ne (tgt := 53) C.1 C.2.1 dX10_behindTerm_44 (by decide) (fun c44 => ?_) (fun c44 => ?_)
        · replace h := ineg c44 h
          refine lv_iload C.1 C.2.1 dX10_behindTerm_53 (lv_at hl 3 rfl) ?_
          rw [← Option.some.inj h]
          exact rtI C X dX10_behindTerm_55
        · replace h := ipos c44 h
          refine lv_iinc (v := (x4 + 1)) (lv' := [(4, .int (x4 + 1)), (0, .ref (gB E + 1)), (2, .int x2), (3, .int x3)]) C.1 C.2.1 dX10_behindTerm_47 hl (k := 3) rfl rfl (by decide) rfl (fun ls hl => ?_)
          refine lv_goto (tgt := 21) C.1 C.2.1 dX10_behindTerm_50 (by decide) ?_
          exact ih X (lv_sub hl [1, 2, 3, 0] rfl) h

set_option maxRecDepth 20000 in
theorem w_X10_behindTerm {r : Int32} {σ : Mem} {x1 : Int32} {x2 : Int32} {ls : Array Slot} {H : Heap} {locs : List Loc} (C : Cx p s m args meth c cX10_behindTerm (some .int) 5 RX10) (G : Gf E s) (X : Hx E σ s H locs) (hl : lv_has ls 5 [(0, .ref (gB E + 1)), (1, .int x1), (2, .int x2)]) (h : X10_behindTerm σ x1 x2 = some r) : W p l e (RM 2) s m args below meth c H locs 0 0 (QI E below args s r σ) (F0 m 0 ls []) := by
  rw [X10_behindTerm] at h
  refine lv_aload_n C.1 C.2.1 dX10_behindTerm_0 rfl (lv_at hl 0 rfl) ?_
  refine gfX10 C G X (k := 1) kd_1 0 (v := .ref (gB E + 2)) rfl rfl (by decide) k_164 rfl dX10_behindTerm_1 ?_
  refine lv_iload_n C.1 C.2.1 dX10_behindTerm_4 rfl (lv_at hl 1 rfl) ?_
  obtain ⟨r5, e5, h⟩ := bnd h
  refine afI X (runV C G X q_X6_get k_498 k_499 k_815 (rcX6 G X kd_2) (c_X6_get l E kd_2 e5) rfl hl.1 rfl (Nat.le_of_ble_eq_true rfl) ⟨Nat.le_of_ble_eq_true rfl, Nat.le_of_ble_eq_true rfl⟩ ⟨Nat.le_of_ble_eq_true rfl, Nat.le_of_ble_eq_true rfl⟩ dX10_behindTerm_5) (fun H locs X => ?_)
  obtain ⟨r8, e8, h⟩ := bnd h
  refine afI X (runS C G X q_X10_kindOf k_821 k_820 (c_X10_kindOf l E e8) rfl hl.1 rfl (Nat.le_of_ble_eq_true rfl) ⟨Nat.le_of_ble_eq_true rfl, Nat.le_of_ble_eq_true rfl⟩ ⟨Nat.le_of_ble_eq_true rfl, Nat.le_of_ble_eq_true rfl⟩ dX10_behindTerm_8) (fun H locs X => ?_)
  refine lv_istore_n (lv' := [(3, .int r8), (0, .ref (gB E + 1)), (1, .int x1), (2, .int x2)]) C.1 C.2.1 dX10_behindTerm_11 rfl hl (by decide) rfl (fun ls hl => ?_)
  refine lv_iload_n C.1 C.2.1 dX10_behindTerm_12 rfl (lv_at hl 2 rfl) ?_
  refine lv_iconst (v := 1) C.1 C.2.1 dX10_behindTerm_13 (by decide) ?_
  refine lv_iadd C.1 C.2.1 dX10_behindTerm_14 ?_
  refine lv_iload_n C.1 C.2.1 dX10_behindTerm_15 rfl (lv_at hl 3 rfl) ?_
  refine mmin C hl.1 (cells := 0) k_823 ⟨Nat.le_of_ble_eq_true rfl, Nat.le_of_ble_eq_true rfl, Nat.le_of_ble_eq_true rfl, Nat.le_of_ble_eq_true rfl⟩ dX10_behindTerm_16 ?_
  obtain ⟨v19, e19, h⟩ := bnd h
  rw [Option.some.inj e19]
  refine lv_istore (lv' := [(4, .int v19), (3, .int r8), (0, .ref (gB E + 1)), (1, .int x1), (2, .int x2)]) C.1 C.2.1 dX10_behindTerm_19 hl (by decide) rfl (fun ls hl => ?_)
  exact w_X10_behindTerm_21 C G FU X (lv_sub hl [2, 4, 1, 0] rfl) h

theorem c_X10_behindTerm (l : Launch) (E : GE) {σ : Mem} {x1 : Int32} {x2 : Int32} {r : Int32} (h : X10_behindTerm σ x1 x2 = some r) : CtI l E yX10_behindTerm cX10_behindTerm 5 .int 2 [.ref (gB E + 1), .int x1, .int x2] σ r σ := by
  refine Met.ofW (cc := cX10_behindTerm) (maxL := 5) (ret := (some .int)) (by decide) rfl ?_
  intro p e s m args below meth c s₁ B hml hv
  obtain ⟨rfl, G, X⟩ := start hv
  have C := cxof B hml
  have hl := lv_entry [.ref (gB E + 1), .int x1, .int x2] (n := 5) (Nat.le_of_ble_eq_true rfl)
  rw [lg_entry_eq]
  generalize (lg_sl [.ref (gB E + 1), .int x1, .int x2] ++ List.replicate (5 - (lg_sl [.ref (gB E + 1), .int x1, .int x2]).length) Slot.unset).toArray = ls at hl ⊢
  exact w_X10_behindTerm C G X hl h

set_option maxRecDepth 20000 in
theorem w_X10_spells_15 {r : Int32} {σ : Mem} (C : Cx p s m args meth c cX10_spells (some .boolean) 5 RX10) (G : Gf E s) : ∀ (f : Nat) {s1 : Nat} {x2 : Int32} {x4 : Int32} {ls : Array Slot} {H : Heap} {locs : List Loc}, Hx E σ s H locs → lv_has ls 5 [(0, .ref (gB E + 1)), (1, .ref (gK E s1)), (2, .int x2), (4, .int x4)] → X10_spells_15 σ f s1 x2 x4 = some r → W p l e (RM 9) s m args below meth c H locs 0 0 (QI E below args s r σ) (F0 m 15 ls []) := by
  intro f
  induction f with
  | zero =>
    intro s1 x2 x4 ls H locs X hl h
    rw [X10_spells_15] at h
    cases h
  | succ f ih =>
    intro s1 x2 x4 ls H locs X hl h
    rw [X10_spells_15] at h
    refine lv_iload C.1 C.2.1 dX10_spells_15 (lv_at hl 3 rfl) ?_
    refine lv_aload_n C.1 C.2.1 dX10_spells_17 rfl (lv_at hl 1 rfl) ?_
    obtain ⟨u18, rz18, h⟩ := bnd h
    obtain ⟨r18, e18, h⟩ := bnd h
    refine afI X (runV C G X q_slen k_841 k_842 k_840 (rcS G X rz18) (c_slen l E e18) rfl hl.1 rfl (Nat.le_of_ble_eq_true rfl) ⟨Nat.le_of_ble_eq_true rfl, Nat.le_of_ble_eq_true rfl⟩ ⟨Nat.le_of_ble_eq_true rfl, Nat.le_of_ble_eq_true rfl⟩ dX10_spells_18) (fun H locs X => ?_)
    refine lv_icmp_ge (tgt := 52) C.1 C.2.1 dX10_spells_21 (by decide) (fun c21 => ?_) (fun c21 => ?_)
    · replace h := ipos c21 h
      refine lv_iconst (v := 1) C.1 C.2.1 dX10_spells_52 (by decide) ?_
      obtain ⟨u53, z53, h⟩ := bnd h
      rw [← Option.some.inj h]
      exact rtZ C X (gb_s z53) dX10_spells_53
    · replace h := ineg c21 h
      refine lv_aload_n C.1 C.2.1 dX10_spells_24 rfl (lv_at hl 1 rfl) ?_
      refine lv_iload C.1 C.2.1 dX10_spells_25 (lv_at hl 3 rfl) ?_
      obtain ⟨u27, rz27, h⟩ := bnd h
      obtain ⟨r27, e27, h⟩ := bnd h
      refine afI X (runV C G X q_scha k_851 k_852 k_850 (rcS G X rz27) (c_scha l E e27) rfl hl.1 rfl (Nat.le_of_ble_eq_true rfl) ⟨Nat.le_of_ble_eq_true rfl, Nat.le_of_ble_eq_true rfl⟩ ⟨Nat.le_of_ble_eq_true rfl, Nat.le_of_ble_eq_true rfl⟩ dX10_spells_27) (fun H locs X => ?_)
      refine lv_aload_n C.1 C.2.1 dX10_spells_30 rfl (lv_at hl 0 rfl) ?_
      refine gfX10 C G X (k := 1) kd_1 0 (v := .ref (gB E + 2)) rfl rfl (by decide) k_164 rfl dX10_spells_31 ?_
      refine lv_iload_n C.1 C.2.1 dX10_spells_34 rfl (lv_at hl 2 rfl) ?_
      refine lv_iload C.1 C.2.1 dX10_spells_35 (lv_at hl 3 rfl) ?_
      refine lv_iadd C.1 C.2.1 dX10_spells_37 ?_
      obtain ⟨r38, e38, h⟩ := bnd h
      refine afI X (runV C G X q_X6_get k_498 k_499 k_815 (rcX6 G X kd_2) (c_X6_get l E kd_2 e38) rfl hl.1 rfl (Nat.le_of_ble_eq_true rfl) ⟨Nat.le_of_ble_eq_true rfl, Nat.le_of_ble_eq_true rfl⟩ ⟨Nat.le_of_ble_eq_true rfl, Nat.le_of_ble_eq_true rfl⟩ dX10_spells_38) (fun H locs X => ?_)
      refine lv_icmp_eq (tgt := 46) C.1 C.2.1 dX10_spells_41 (by decide) (fun c41 => ?_) (fun c41 => ?_)
      · replace h := ipos c41 h
        refine lv_iinc (v := (x4 + 1)) (lv' := [(4, .int (x4 + 1)), (0, .ref (gB E + 1)), (1, .ref (gK E s1)), (2, .int x2)]) C.1 C.2.1 dX10_spells_46 hl (k := 3) rfl rfl (by decide) rfl (fun ls hl => ?_)
        refine lv_goto (tgt := 15) C.1 C.2.1 dX10_spells_49 (by decide) ?_
        exact ih X (lv_sub hl [1, 2, 3, 0] rfl) h
      · replace h := ineg c41 h
        refine lv_iconst (v := 0) C.1 C.2.1 dX10_spells_44 (by decide) ?_
        obtain ⟨u45, z45, h⟩ := bnd h
        rw [← Option.some.inj h]
        exact rtZ C X (gb_s z45) dX10_spells_45

set_option maxRecDepth 20000 in
theorem w_X10_spells {r : Int32} {σ : Mem} {s1 : Nat} {x2 : Int32} {x3 : Int32} {ls : Array Slot} {H : Heap} {locs : List Loc} (C : Cx p s m args meth c cX10_spells (some .boolean) 5 RX10) (G : Gf E s) (X : Hx E σ s H locs) (hl : lv_has ls 5 [(0, .ref (gB E + 1)), (1, .ref (gK E s1)), (2, .int x2), (3, .int x3)]) (h : X10_spells σ s1 x2 x3 = some r) : W p l e (RM 9) s m args below meth c H locs 0 0 (QI E below args s r σ) (F0 m 0 ls []) := by
  rw [X10_spells] at h
  refine lv_aload_n C.1 C.2.1 dX10_spells_0 rfl (lv_at hl 1 rfl) ?_
  obtain ⟨u1, rz1, h⟩ := bnd h
  obtain ⟨r1, e1, h⟩ := bnd h
  refine afI X (runV C G X q_slen k_841 k_842 k_840 (rcS G X rz1) (c_slen l E e1) rfl hl.1 rfl (Nat.le_of_ble_eq_true rfl) ⟨Nat.le_of_ble_eq_true rfl, Nat.le_of_ble_eq_true rfl⟩ ⟨Nat.le_of_ble_eq_true rfl, Nat.le_of_ble_eq_true rfl⟩ dX10_spells_1) (fun H locs X => ?_)
  refine lv_iload_n C.1 C.2.1 dX10_spells_4 rfl (lv_at hl 3 rfl) ?_
  refine lv_iload_n C.1 C.2.1 dX10_spells_5 rfl (lv_at hl 2 rfl) ?_
  refine lv_isub C.1 C.2.1 dX10_spells_6 ?_
  refine lv_icmp_eq (tgt := 12) C.1 C.2.1 dX10_spells_7 (by decide) (fun c7 => ?_) (fun c7 => ?_)
  · replace h := ipos c7 h
    refine lv_iconst (v := 0) C.1 C.2.1 dX10_spells_12 (by decide) ?_
    refine lv_istore (lv' := [(4, .int (0 : Int32)), (0, .ref (gB E + 1)), (1, .ref (gK E s1)), (2, .int x2), (3, .int x3)]) C.1 C.2.1 dX10_spells_13 hl (by decide) rfl (fun ls hl => ?_)
    exact w_X10_spells_15 C G FU X (lv_sub hl [1, 2, 3, 0] rfl) h
  · replace h := ineg c7 h
    refine lv_iconst (v := 0) C.1 C.2.1 dX10_spells_10 (by decide) ?_
    obtain ⟨u11, z11, h⟩ := bnd h
    rw [← Option.some.inj h]
    exact rtZ C X (gb_s z11) dX10_spells_11

theorem c_X10_spells (l : Launch) (E : GE) {σ : Mem} {s1 : Nat} {x2 : Int32} {x3 : Int32} {r : Int32} (h : X10_spells σ s1 x2 x3 = some r) : CtI l E yX10_spells cX10_spells 5 .boolean 9 [.ref (gB E + 1), .ref (gK E s1), .int x2, .int x3] σ r σ := by
  refine Met.ofW (cc := cX10_spells) (maxL := 5) (ret := (some .boolean)) (by decide) rfl ?_
  intro p e s m args below meth c s₁ B hml hv
  obtain ⟨rfl, G, X⟩ := start hv
  have C := cxof B hml
  have hl := lv_entry [.ref (gB E + 1), .ref (gK E s1), .int x2, .int x3] (n := 5) (Nat.le_of_ble_eq_true rfl)
  rw [lg_entry_eq]
  generalize (lg_sl [.ref (gB E + 1), .ref (gK E s1), .int x2, .int x3] ++ List.replicate (5 - (lg_sl [.ref (gB E + 1), .ref (gK E s1), .int x2, .int x3]).length) Slot.unset).toArray = ls at hl ⊢
  exact w_X10_spells C G X hl h

set_option maxRecDepth 20000 in
theorem w_X10_termOf_52 {r : Int32} {σ : Mem} (C : Cx p s m args meth c cX10_termOf (some (.object "PaneStreet$Term")) 7 RX10) (G : Gf E s) : ∀ (f : Nat) {x1 : Int32} {x2 : Int32} {x4 : Int32} {x5 : Int32} {ls : Array Slot} {H : Heap} {locs : List Loc}, Hx E σ s H locs → lv_has ls 7 [(0, .ref (gB E + 1)), (1, .int x1), (2, .int x2), (3, .ref (gZ E)), (4, .int x4), (5, .int x5)] → X10_termOf_52 σ f x1 x2 x4 x5 = some r → W p l e (RM 10) s m args below meth c H locs 0 0 (QT E below args s r σ) (F0 m 52 ls []) := by
  intro f
  induction f with
  | zero =>
    intro x1 x2 x4 x5 ls H locs X hl h
    rw [X10_termOf_52] at h
    cases h
  | succ f ih =>
    intro x1 x2 x4 x5 ls H locs X hl h
    rw [X10_termOf_52] at h
    refine lv_iload C.1 C.2.1 dX10_termOf_52 (lv_at hl 5 rfl) ?_
    refine lv_iload C.1 C.2.1 dX10_termOf_54 (lv_at hl 4 rfl) ?_
    refine lv_icmp_ge (tgt := 88) C.1 C.2.1 dX10_termOf_56 (by decide) (fun c56 => ?_) (fun c56 => ?_)
    · replace h := ipos c56 h
      refine gsT C G X (i := 1) (x := 2) (by decide) (by decide) (nm := "WRONG") rfl k_832 dX10_termOf_88 ?_
      rw [← Option.some.inj h]
      exact rtQ C X dX10_termOf_91
    · replace h := ineg c56 h
      refine lv_aload_n C.1 C.2.1 dX10_termOf_59 rfl (lv_at hl 3 rfl) ?_
      refine lv_iload C.1 C.2.1 dX10_termOf_60 (lv_at hl 5 rfl) ?_
      obtain ⟨r62, e62, h⟩ := bnd h
      refine aldZ C G X e62 dX10_termOf_62 ?_
      refine lq_astore (lv' := [(6, tV E r62), (0, .ref (gB E + 1)), (1, .int x1), (2, .int x2), (3, .ref (gZ E)), (4, .int x4), (5, .int x5)]) C.1 C.2.1 dX10_termOf_63 hl (by decide) rfl (fun ls hl => ?_)
      refine lv_aload_n C.1 C.2.1 dX10_termOf_65 rfl (lv_at hl 1 rfl) ?_
      refine lq_aload C.1 C.2.1 dX10_termOf_66 (lv_at hl 0 rfl) ?_
      obtain ⟨r68, e68, h⟩ := bnd h
      refine gfSp C G X e68 k_2317 dX10_termOf_68 ?_
      refine lv_iload_n C.1 C.2.1 dX10_termOf_71 rfl (lv_at hl 2 rfl) ?_
      refine lv_iload_n C.1 C.2.1 dX10_termOf_72 rfl (lv_at hl 3 rfl) ?_
      obtain ⟨r73, e73, h⟩ := bnd h
      refine afI X (runV C G X q_X10_spells k_838 kp_8 k_836 (rcX10 G X kd_1) (c_X10_spells l E e73) rfl hl.1 rfl (Nat.le_of_ble_eq_true rfl) ⟨Nat.le_of_ble_eq_true rfl, Nat.le_of_ble_eq_true rfl⟩ ⟨Nat.le_of_ble_eq_true rfl, Nat.le_of_ble_eq_true rfl⟩ dX10_termOf_73) (fun H locs X => ?_)
      refine lv_if_eq (tgt := 82) C.1 C.2.1 dX10_termOf_76 (by decide) (fun c76 => ?_) (fun c76 => ?_)
      · replace h := ipos c76 h
        refine lv_iinc (v := (x5 + 1)) (lv' := [(5, .int (x5 + 1)), (6, tV E r62), (0, .ref (gB E + 1)), (1, .int x1), (2, .int x2), (3, .ref (gZ E)), (4, .int x4)]) C.1 C.2.1 dX10_termOf_82 hl (k := 6) rfl rfl (by decide) rfl (fun ls hl => ?_)
        refine lv_goto (tgt := 52) C.1 C.2.1 dX10_termOf_85 (by decide) ?_
        exact ih X (lv_sub hl [2, 3, 4, 5, 6, 0] rfl) h
      · replace h := ineg c76 h
        refine lq_aload C.1 C.2.1 dX10_termOf_79 (lv_at hl 0 rfl) ?_
        rw [← Option.some.inj h]
        exact rtQ C X dX10_termOf_81

set_option maxRecDepth 20000 in
theorem w_X10_termOf {r : Int32} {σ : Mem} {x1 : Int32} {x2 : Int32} {ls : Array Slot} {H : Heap} {locs : List Loc} (C : Cx p s m args meth c cX10_termOf (some (.object "PaneStreet$Term")) 7 RX10) (G : Gf E s) (X : Hx E σ s H locs) (hl : lv_has ls 7 [(0, .ref (gB E + 1)), (1, .int x1), (2, .int x2)]) (h : X10_termOf σ x1 x2 = some r) : W p l e (RM 10) s m args below meth c H locs 0 0 (QT E below args s r σ) (F0 m 0 ls []) := by
  rw [X10_termOf] at h
  refine lv_iload_n C.1 C.2.1 dX10_termOf_0 rfl (lv_at hl 1 rfl) ?_
  refine lv_iload_n C.1 C.2.1 dX10_termOf_1 rfl (lv_at hl 2 rfl) ?_
  refine lv_icmp_lt (tgt := 9) C.1 C.2.1 dX10_termOf_2 (by decide) (fun c2 => ?_) (fun c2 => ?_)
  · replace h := ipos c2 h
    refine lv_aload_n C.1 C.2.1 dX10_termOf_9 rfl (lv_at hl 0 rfl) ?_
    refine gfX10 C G X (k := 1) kd_1 0 (v := .ref (gB E + 2)) rfl rfl (by decide) k_164 rfl dX10_termOf_10 ?_
    refine lv_iload_n C.1 C.2.1 dX10_termOf_13 rfl (lv_at hl 1 rfl) ?_
    obtain ⟨r14, e14, h⟩ := bnd h
    refine afI X (runV C G X q_X6_get k_498 k_499 k_815 (rcX6 G X kd_2) (c_X6_get l E kd_2 e14) rfl hl.1 rfl (Nat.le_of_ble_eq_true rfl) ⟨Nat.le_of_ble_eq_true rfl, Nat.le_of_ble_eq_true rfl⟩ ⟨Nat.le_of_ble_eq_true rfl, Nat.le_of_ble_eq_true rfl⟩ dX10_termOf_14) (fun H locs X => ?_)
    obtain ⟨r17, e17, h⟩ := bnd h
    refine afI X (runS C G X q_X10_kindOf k_821 k_820 (c_X10_kindOf l E e17) rfl hl.1 rfl (Nat.le_of_ble_eq_true rfl) ⟨Nat.le_of_ble_eq_true rfl, Nat.le_of_ble_eq_true rfl⟩ ⟨Nat.le_of_ble_eq_true rfl, Nat.le_of_ble_eq_true rfl⟩ dX10_termOf_17) (fun H locs X => ?_)
    refine lv_iconst (v := 2) C.1 C.2.1 dX10_termOf_20 (by decide) ?_
    refine lv_icmp_ne (tgt := 41) C.1 C.2.1 dX10_termOf_21 (by decide) (fun c21 => ?_) (fun c21 => ?_)
    · replace h := ineg c21 h
      refine gsALL C G X (by decide +kernel) dX10_termOf_41 ?_
      refine lv_astore_n (lv' := [(3, .ref (gZ E)), (0, .ref (gB E + 1)), (1, .int x1), (2, .int x2)]) C.1 C.2.1 dX10_termOf_44 rfl hl (by decide) rfl (fun ls hl => ?_)
      refine lv_aload_n C.1 C.2.1 dX10_termOf_45 rfl (lv_at hl 0 rfl) ?_
      refine alnZ C G X dX10_termOf_46 ?_
      refine lv_istore (lv' := [(4, .int (nI 32)), (3, .ref (gZ E)), (0, .ref (gB E + 1)), (1, .int x1), (2, .int x2)]) C.1 C.2.1 dX10_termOf_47 hl (by decide) rfl (fun ls hl => ?_)
      refine lv_iconst (v := 0) C.1 C.2.1 dX10_termOf_49 (by decide) ?_
      refine lv_istore (lv' := [(5, .int (0 : Int32)), (4, .int (nI 32)), (3, .ref (gZ E)), (0, .ref (gB E + 1)), (1, .int x1), (2, .int x2)]) C.1 C.2.1 dX10_termOf_50 hl (by decide) rfl (fun ls hl => ?_)
      exact w_X10_termOf_52 C G FU X (lv_sub hl [3, 4, 5, 2, 1, 0] rfl) h
    · replace h := ipos c21 h
      refine lv_iload_n C.1 C.2.1 dX10_termOf_24 rfl (lv_at hl 2 rfl) ?_
      refine lv_iload_n C.1 C.2.1 dX10_termOf_25 rfl (lv_at hl 1 rfl) ?_
      refine lv_isub C.1 C.2.1 dX10_termOf_26 ?_
      refine lv_iconst (v := 3) C.1 C.2.1 dX10_termOf_27 (by decide) ?_
      refine lv_icmp_gt (tgt := 37) C.1 C.2.1 dX10_termOf_28 (by decide) (fun c28 => ?_) (fun c28 => ?_)
      · replace h := ipos c28 h
        refine gsT C G X (i := 1) (x := 2) (by decide) (by decide) (nm := "WRONG") rfl k_832 dX10_termOf_37 ?_
        rw [← Option.some.inj h]
        exact rtQ C X dX10_termOf_40
      · replace h := ineg c28 h
        refine gsT C G X (i := 2) (x := 3) (by decide) (by decide) (nm := "NUMBER") rfl k_830 dX10_termOf_31 ?_
        refine lv_goto (tgt := 40) C.1 C.2.1 dX10_termOf_34 (by decide) ?_
        rw [← Option.some.inj h]
        exact rtQ C X dX10_termOf_40
  · replace h := ineg c2 h
    refine gsT C G X (i := 0) (x := 1) (by decide) (by decide) (nm := "END") rfl k_828 dX10_termOf_5 ?_
    rw [← Option.some.inj h]
    exact rtQ C X dX10_termOf_8

theorem c_X10_termOf (l : Launch) (E : GE) {σ : Mem} {x1 : Int32} {x2 : Int32} {r : Int32} (h : X10_termOf σ x1 x2 = some r) : CtT l E yX10_termOf cX10_termOf 7 (.object "PaneStreet$Term") 10 [.ref (gB E + 1), .int x1, .int x2] σ r σ := by
  refine Met.ofW (cc := cX10_termOf) (maxL := 7) (ret := (some (.object "PaneStreet$Term"))) (by decide) rfl ?_
  intro p e s m args below meth c s₁ B hml hv
  obtain ⟨rfl, G, X⟩ := start hv
  have C := cxof B hml
  have hl := lv_entry [.ref (gB E + 1), .int x1, .int x2] (n := 7) (Nat.le_of_ble_eq_true rfl)
  rw [lg_entry_eq]
  generalize (lg_sl [.ref (gB E + 1), .int x1, .int x2] ++ List.replicate (7 - (lg_sl [.ref (gB E + 1), .int x1, .int x2]).length) Slot.unset).toArray = ls at hl ⊢
  exact w_X10_termOf C G X hl h

set_option maxRecDepth 20000 in
theorem w_X10_valueOf_5 {r : Int32} {σ : Mem} (C : Cx p s m args meth c cX10_valueOf (some .int) 5 RX10) (G : Gf E s) : ∀ (f : Nat) {x2 : Int32} {x3 : Int32} {x4 : Int32} {ls : Array Slot} {H : Heap} {locs : List Loc}, Hx E σ s H locs → lv_has ls 5 [(0, .ref (gB E + 1)), (2, .int x2), (3, .int x3), (4, .int x4)] → X10_valueOf_5 σ f x2 x3 x4 = some r → W p l e (RM 2) s m args below meth c H locs 0 0 (QI E below args s r σ) (F0 m 5 ls []) := by
  intro f
  induction f with
  | zero =>
    intro x2 x3 x4 ls H locs X hl h
    rw [X10_valueOf_5] at h
    cases h
  | succ f ih =>
    intro x2 x3 x4 ls H locs X hl h
    rw [X10_valueOf_5] at h
    refine lv_iload C.1 C.2.1 dX10_valueOf_5 (lv_at hl 3 rfl) ?_
    refine lv_iload_n C.1 C.2.1 dX10_valueOf_7 rfl (lv_at hl 1 rfl) ?_
    refine lv_icmp_ge (tgt := 35) C.1 C.2.1 dX10_valueOf_8 (by decide) (fun c8 => ?_) (fun c8 => ?_)
    · replace h := ipos c8 h
      refine lv_iload_n C.1 C.2.1 dX10_valueOf_35 rfl (lv_at hl 2 rfl) ?_
      rw [← Option.some.inj h]
      exact rtI C X dX10_valueOf_36
    · replace h := ineg c8 h
      refine lv_iload_n C.1 C.2.1 dX10_valueOf_11 rfl (lv_at hl 2 rfl) ?_
      refine lv_bipush (v := 10) C.1 C.2.1 dX10_valueOf_12 (by decide) ?_
      refine lv_imul C.1 C.2.1 dX10_valueOf_14 ?_
      refine lv_aload_n C.1 C.2.1 dX10_valueOf_15 rfl (lv_at hl 0 rfl) ?_
      refine gfX10 C G X (k := 1) kd_1 0 (v := .ref (gB E + 2)) rfl rfl (by decide) k_164 rfl dX10_valueOf_16 ?_
      refine lv_iload C.1 C.2.1 dX10_valueOf_19 (lv_at hl 3 rfl) ?_
      obtain ⟨r21, e21, h⟩ := bnd h
      refine afI X (runV C G X q_X6_get k_498 k_499 k_815 (rcX6 G X kd_2) (c_X6_get l E kd_2 e21) rfl hl.1 rfl (Nat.le_of_ble_eq_true rfl) ⟨Nat.le_of_ble_eq_true rfl, Nat.le_of_ble_eq_true rfl⟩ ⟨Nat.le_of_ble_eq_true rfl, Nat.le_of_ble_eq_true rfl⟩ dX10_valueOf_21) (fun H locs X => ?_)
      refine lv_iadd C.1 C.2.1 dX10_valueOf_24 ?_
      refine lv_bipush (v := 48) C.1 C.2.1 dX10_valueOf_25 (by decide) ?_
      refine lv_isub C.1 C.2.1 dX10_valueOf_27 ?_
      refine lv_istore_n (lv' := [(3, .int (((x3 * (10 : Int32)) + r21) - (48 : Int32))), (0, .ref (gB E + 1)), (2, .int x2), (4, .int x4)]) C.1 C.2.1 dX10_valueOf_28 rfl hl (by decide) rfl (fun ls hl => ?_)
      refine lv_iinc (v := (x4 + 1)) (lv' := [(4, .int (x4 + 1)), (3, .int (((x3 * (10 : Int32)) + r21) - (48 : Int32))), (0, .ref (gB E + 1)), (2, .int x2)]) C.1 C.2.1 dX10_valueOf_29 hl (k := 3) rfl rfl (by decide) rfl (fun ls hl => ?_)
      refine lv_goto (tgt := 5) C.1 C.2.1 dX10_valueOf_32 (by decide) ?_
      exact ih X (lv_sub hl [2, 3, 1, 0] rfl) h

set_option maxRecDepth 20000 in
theorem w_X10_valueOf {r : Int32} {σ : Mem} {x1 : Int32} {x2 : Int32} {ls : Array Slot} {H : Heap} {locs : List Loc} (C : Cx p s m args meth c cX10_valueOf (some .int) 5 RX10) (G : Gf E s) (X : Hx E σ s H locs) (hl : lv_has ls 5 [(0, .ref (gB E + 1)), (1, .int x1), (2, .int x2)]) (h : X10_valueOf σ x1 x2 = some r) : W p l e (RM 2) s m args below meth c H locs 0 0 (QI E below args s r σ) (F0 m 0 ls []) := by
  rw [X10_valueOf] at h
  refine lv_iconst (v := 0) C.1 C.2.1 dX10_valueOf_0 (by decide) ?_
  refine lv_istore_n (lv' := [(3, .int (0 : Int32)), (0, .ref (gB E + 1)), (1, .int x1), (2, .int x2)]) C.1 C.2.1 dX10_valueOf_1 rfl hl (by decide) rfl (fun ls hl => ?_)
  refine lv_iload_n C.1 C.2.1 dX10_valueOf_2 rfl (lv_at hl 2 rfl) ?_
  refine lv_istore (lv' := [(4, .int x1), (3, .int (0 : Int32)), (0, .ref (gB E + 1)), (1, .int x1), (2, .int x2)]) C.1 C.2.1 dX10_valueOf_3 hl (by decide) rfl (fun ls hl => ?_)
  exact w_X10_valueOf_5 C G FU X (lv_sub hl [2, 4, 1, 0] rfl) h

theorem c_X10_valueOf (l : Launch) (E : GE) {σ : Mem} {x1 : Int32} {x2 : Int32} {r : Int32} (h : X10_valueOf σ x1 x2 = some r) : CtI l E yX10_valueOf cX10_valueOf 5 .int 2 [.ref (gB E + 1), .int x1, .int x2] σ r σ := by
  refine Met.ofW (cc := cX10_valueOf) (maxL := 5) (ret := (some .int)) (by decide) rfl ?_
  intro p e s m args below meth c s₁ B hml hv
  obtain ⟨rfl, G, X⟩ := start hv
  have C := cxof B hml
  have hl := lv_entry [.ref (gB E + 1), .int x1, .int x2] (n := 5) (Nat.le_of_ble_eq_true rfl)
  rw [lg_entry_eq]
  generalize (lg_sl [.ref (gB E + 1), .int x1, .int x2] ++ List.replicate (5 - (lg_sl [.ref (gB E + 1), .int x1, .int x2]).length) Slot.unset).toArray = ls at hl ⊢
  exact w_X10_valueOf C G X hl h

set_option maxRecDepth 20000 in
theorem w_X10_scan_93 {r : Mem} {σ : Mem} {rc19 : Int32 → Int32 → Int32 → Mem → Option Mem} {x1 : Int32} {x2 : Int32} {x3 : Int32} {x4 : Int32} {y1 : Int32} {y2 : Int32} {ls : Array Slot} {H : Heap} {locs : List Loc} (C : Cx p s m args meth c cX10_scan none 5 RX10) (G : Gf E s) (hr19 : ∀ {x1 : Int32} {x2 : Int32} {x3 : Int32} {σ : Mem} {ls : Array Slot} {H : Heap} {locs : List Loc}, Hx E σ s H locs → lv_has ls 5 [(0, .ref (gB E + 1)), (1, .int x1), (2, .int x2), (3, .int x3)] → rc19 x1 x2 x3 σ = some r → W p l e (RM 11) s m args below meth c H locs 0 0 (QV E below args s r) (F0 m 19 ls [])) (X : Hx E σ s H locs) (hl : lv_has ls 5 [(0, .ref (gB E + 1)), (1, .int x1), (2, .int x2), (3, .int x3), (4, .int x4)]) (h : X10_scan_93 rc19 x1 x2 x3 x4 y1 y2 σ = some r) : W p l e (RM 11) s m args below meth c H locs 0 0 (QV E below args s r) (F0 m 93 ls [.int y2, .int y1, .ref (gB E + 7)]) := by
  rw [X10_scan_93] at h
  obtain ⟨σ93, e93, h⟩ := bnd h
  refine afV X (runV C G X q_X6_set k_451 k_452 k_450 (rcX6 G X kd_7) (c_X6_set l E kd_7 e93) rfl hl.1 rfl (Nat.le_of_ble_eq_true rfl) ⟨Nat.le_of_ble_eq_true rfl, Nat.le_of_ble_eq_true rfl⟩ ⟨Nat.le_of_ble_eq_true rfl, Nat.le_of_ble_eq_true rfl⟩ dX10_scan_93) (fun H locs X => ?_)
  refine lv_iload_n C.1 C.2.1 dX10_scan_96 rfl (lv_at hl 2 rfl) ?_
  refine lv_iload_n C.1 C.2.1 dX10_scan_97 rfl (lv_at hl 1 rfl) ?_
  refine lv_icmp_lt (tgt := 102) C.1 C.2.1 dX10_scan_98 (by decide) (fun c98 => ?_) (fun c98 => ?_)
  · replace h := ipos c98 h
    refine lv_iload C.1 C.2.1 dX10_scan_102 (lv_at hl 4 rfl) ?_
    refine lv_istore_n (lv' := [(2, .int x4), (0, .ref (gB E + 1)), (1, .int x1), (3, .int x3), (4, .int x4)]) C.1 C.2.1 dX10_scan_104 rfl hl (by decide) rfl (fun ls hl => ?_)
    refine lv_iinc (v := (x3 + 1)) (lv' := [(3, .int (x3 + 1)), (2, .int x4), (0, .ref (gB E + 1)), (1, .int x1), (4, .int x4)]) C.1 C.2.1 dX10_scan_105 hl (k := 3) rfl rfl (by decide) rfl (fun ls hl => ?_)
    refine lv_goto (tgt := 19) C.1 C.2.1 dX10_scan_108 (by decide) ?_
    exact hr19 X (lv_sub hl [2, 3, 1, 0] rfl) h
  · replace h := ineg c98 h
    rw [← Option.some.inj h]
    exact rtV C X dX10_scan_101

set_option maxRecDepth 20000 in
theorem w_X10_scan_19 {r : Mem} (C : Cx p s m args meth c cX10_scan none 5 RX10) (G : Gf E s) : ∀ (f : Nat) {x1 : Int32} {x2 : Int32} {x3 : Int32} {σ : Mem} {ls : Array Slot} {H : Heap} {locs : List Loc}, Hx E σ s H locs → lv_has ls 5 [(0, .ref (gB E + 1)), (1, .int x1), (2, .int x2), (3, .int x3)] → X10_scan_19 f x1 x2 x3 σ = some r → W p l e (RM 11) s m args below meth c H locs 0 0 (QV E below args s r) (F0 m 19 ls []) := by
  intro f
  induction f with
  | zero =>
    intro x1 x2 x3 σ ls H locs X hl h
    rw [X10_scan_19] at h
    cases h
  | succ f ih =>
    intro x1 x2 x3 σ ls H locs X hl h
    rw [X10_scan_19] at h
    refine lv_iload_n C.1 C.2.1 dX10_scan_19 rfl (lv_at hl 3 rfl) ?_
    refine lv_aload_n C.1 C.2.1 dX10_scan_20 rfl (lv_at hl 0 rfl) ?_
    refine gfX10 C G X (k := 1) kd_1 2 (v := .ref (gB E + 4)) rfl rfl (by decide) k_167 rfl dX10_scan_21 ?_
    refine alnT C G X kd_4 dX10_scan_24 ?_
    refine lv_icmp_ge (tgt := 111) C.1 C.2.1 dX10_scan_25 (by decide) (fun c25 => ?_) (fun c25 => ?_)
    · replace h := ipos c25 h
      rw [← Option.some.inj h]
      exact rtV C X dX10_scan_111
    · replace h := ineg c25 h
      refine lv_aload_n C.1 C.2.1 dX10_scan_28 rfl (lv_at hl 0 rfl) ?_
      refine lv_iload_n C.1 C.2.1 dX10_scan_29 rfl (lv_at hl 2 rfl) ?_
      refine lv_iload_n C.1 C.2.1 dX10_scan_30 rfl (lv_at hl 1 rfl) ?_
      obtain ⟨r31, e31, h⟩ := bnd h
      refine afI X (runV C G X q_X10_behindBlanks k_813 kp_5 k_811 (rcX10 G X kd_1) (c_X10_behindBlanks l E e31) rfl hl.1 rfl (Nat.le_of_ble_eq_true rfl) ⟨Nat.le_of_ble_eq_true rfl, Nat.le_of_ble_eq_true rfl⟩ ⟨Nat.le_of_ble_eq_true rfl, Nat.le_of_ble_eq_true rfl⟩ dX10_scan_31) (fun H locs X => ?_)
      refine lv_istore_n (lv' := [(2, .int r31), (0, .ref (gB E + 1)), (1, .int x1), (3, .int x3)]) C.1 C.2.1 dX10_scan_34 rfl hl (by decide) rfl (fun ls hl => ?_)
      refine lv_aload_n C.1 C.2.1 dX10_scan_35 rfl (lv_at hl 1 rfl) ?_
      refine lv_iload_n C.1 C.2.1 dX10_scan_36 rfl (lv_at hl 0 rfl) ?_
      refine lv_iload_n C.1 C.2.1 dX10_scan_37 rfl (lv_at hl 2 rfl) ?_
      obtain ⟨r38, e38, h⟩ := bnd h
      refine afI X (runV C G X q_X10_behindTerm k_818 kp_6 k_816 (rcX10 G X kd_1) (c_X10_behindTerm l E e38) rfl hl.1 rfl (Nat.le_of_ble_eq_true rfl) ⟨Nat.le_of_ble_eq_true rfl, Nat.le_of_ble_eq_true rfl⟩ ⟨Nat.le_of_ble_eq_true rfl, Nat.le_of_ble_eq_true rfl⟩ dX10_scan_38) (fun H locs X => ?_)
      refine lv_istore (lv' := [(4, .int r38), (2, .int r31), (0, .ref (gB E + 1)), (1, .int x1), (3, .int x3)]) C.1 C.2.1 dX10_scan_41 hl (by decide) rfl (fun ls hl => ?_)
      refine lv_aload_n C.1 C.2.1 dX10_scan_43 rfl (lv_at hl 2 rfl) ?_
      refine gfX10 C G X (k := 1) kd_1 2 (v := .ref (gB E + 4)) rfl rfl (by decide) k_167 rfl dX10_scan_44 ?_
      refine lv_iload_n C.1 C.2.1 dX10_scan_47 rfl (lv_at hl 4 rfl) ?_
      refine lv_aload_n C.1 C.2.1 dX10_scan_48 rfl (lv_at hl 2 rfl) ?_
      refine lv_iload_n C.1 C.2.1 dX10_scan_49 rfl (lv_at hl 1 rfl) ?_
      refine lv_iload C.1 C.2.1 dX10_scan_50 (lv_at hl 0 rfl) ?_
      obtain ⟨r52, e52, h⟩ := bnd h
      refine afQ X (runV C G X q_X10_termOf k_826 kp_7 k_824 (rcX10 G X kd_1) (c_X10_termOf l E e52) rfl hl.1 rfl (Nat.le_of_ble_eq_true rfl) ⟨Nat.le_of_ble_eq_true rfl, Nat.le_of_ble_eq_true rfl⟩ ⟨Nat.le_of_ble_eq_true rfl, Nat.le_of_ble_eq_true rfl⟩ dX10_scan_52) (fun H locs X => ?_)
      obtain ⟨u55, z55, h⟩ := bnd h
      obtain ⟨σ55, e55, h⟩ := bnd h
      refine astT C G X (k := 4) kd_4 (au_s e55).1 z55 dX10_scan_55 (fun H locs X => ?_)
      rw [(au_s e55).2] at X
      refine lv_aload_n C.1 C.2.1 dX10_scan_56 rfl (lv_at hl 2 rfl) ?_
      refine gfX10 C G X (k := 1) kd_1 3 (v := .ref (gB E + 5)) rfl rfl (by decide) k_168 rfl dX10_scan_57 ?_
      refine lv_iload_n C.1 C.2.1 dX10_scan_60 rfl (lv_at hl 4 rfl) ?_
      refine lv_iload_n C.1 C.2.1 dX10_scan_61 rfl (lv_at hl 1 rfl) ?_
      obtain ⟨σ62, e62, h⟩ := bnd h
      refine afV X (runV C G X q_X6_set k_451 k_452 k_450 (rcX6 G X kd_5) (c_X6_set l E kd_5 e62) rfl hl.1 rfl (Nat.le_of_ble_eq_true rfl) ⟨Nat.le_of_ble_eq_true rfl, Nat.le_of_ble_eq_true rfl⟩ ⟨Nat.le_of_ble_eq_true rfl, Nat.le_of_ble_eq_true rfl⟩ dX10_scan_62) (fun H locs X => ?_)
      refine lv_aload_n C.1 C.2.1 dX10_scan_65 rfl (lv_at hl 2 rfl) ?_
      refine gfX10 C G X (k := 1) kd_1 4 (v := .ref (gB E + 7)) rfl rfl (by decide) k_169 rfl dX10_scan_66 ?_
      refine lv_iload_n C.1 C.2.1 dX10_scan_69 rfl (lv_at hl 4 rfl) ?_
      refine lv_aload_n C.1 C.2.1 dX10_scan_70 rfl (lv_at hl 2 rfl) ?_
      refine gfX10 C G X (k := 1) kd_1 2 (v := .ref (gB E + 4)) rfl rfl (by decide) k_167 rfl dX10_scan_71 ?_
      refine lv_iload_n C.1 C.2.1 dX10_scan_74 rfl (lv_at hl 4 rfl) ?_
      obtain ⟨r75, e75, h⟩ := bnd h
      refine aldT C G X (k := 4) kd_4 (ag_s e75).1 dX10_scan_75 ?_
      rw [(ag_s e75).2]
      refine gsT C G X (i := 2) (x := 3) (by decide) (by decide) (nm := "NUMBER") rfl k_830 dX10_scan_76 ?_
      obtain ⟨u79, z79, h⟩ := bnd h
      refine ac_ne (tgt := 92) C G z79 dX10_scan_79 (by decide) (fun c79 => ?_) (fun c79 => ?_)
      · replace h := ineg c79 h
        refine lv_iconst (v := 0) C.1 C.2.1 dX10_scan_92 (by decide) ?_
        exact w_X10_scan_93 C G ih X (lv_sub hl [2, 3, 1, 4, 0] rfl) h
      · replace h := ipos c79 h
        refine lv_aload_n C.1 C.2.1 dX10_scan_82 rfl (lv_at hl 2 rfl) ?_
        refine lv_iload_n C.1 C.2.1 dX10_scan_83 rfl (lv_at hl 1 rfl) ?_
        refine lv_iload C.1 C.2.1 dX10_scan_84 (lv_at hl 0 rfl) ?_
        obtain ⟨r86, e86, h⟩ := bnd h
        refine afI X (runV C G X q_X10_valueOf k_890 kp_9 k_888 (rcX10 G X kd_1) (c_X10_valueOf l E e86) rfl hl.1 rfl (Nat.le_of_ble_eq_true rfl) ⟨Nat.le_of_ble_eq_true rfl, Nat.le_of_ble_eq_true rfl⟩ ⟨Nat.le_of_ble_eq_true rfl, Nat.le_of_ble_eq_true rfl⟩ dX10_scan_86) (fun H locs X => ?_)
        refine lv_goto (tgt := 93) C.1 C.2.1 dX10_scan_89 (by decide) ?_
        exact w_X10_scan_93 C G ih X (lv_sub hl [2, 3, 1, 4, 0] rfl) h

set_option maxRecDepth 20000 in
theorem w_X10_scan {r : Mem} {σ : Mem} {ls : Array Slot} {H : Heap} {locs : List Loc} (C : Cx p s m args meth c cX10_scan none 5 RX10) (G : Gf E s) (X : Hx E σ s H locs) (hl : lv_has ls 5 [(0, .ref (gB E + 1))]) (h : X10_scan σ = some r) : W p l e (RM 11) s m args below meth c H locs 0 0 (QV E below args s r) (F0 m 0 ls []) := by
  rw [X10_scan] at h
  refine lv_aload_n C.1 C.2.1 dX10_scan_0 rfl (lv_at hl 0 rfl) ?_
  obtain ⟨r1, σ1, e1, h⟩ := bnd2 h
  refine afI (r0 := r1) (σ' := σ1) X (runV C G X q_X10_useUp k_808 k_809 k_807 (rcX10 G X kd_1) (c_X10_useUp l E e1) rfl hl.1 rfl (Nat.le_of_ble_eq_true rfl) ⟨Nat.le_of_ble_eq_true rfl, Nat.le_of_ble_eq_true rfl⟩ ⟨Nat.le_of_ble_eq_true rfl, Nat.le_of_ble_eq_true rfl⟩ dX10_scan_1) (fun H locs X => ?_)
  refine lv_istore_n (lv' := [(1, .int r1), (0, .ref (gB E + 1))]) C.1 C.2.1 dX10_scan_4 rfl hl (by decide) rfl (fun ls hl => ?_)
  refine lv_iconst (v := 0) C.1 C.2.1 dX10_scan_5 (by decide) ?_
  refine lv_istore_n (lv' := [(2, .int (0 : Int32)), (1, .int r1), (0, .ref (gB E + 1))]) C.1 C.2.1 dX10_scan_6 rfl hl (by decide) rfl (fun ls hl => ?_)
  refine lv_aload_n C.1 C.2.1 dX10_scan_7 rfl (lv_at hl 2 rfl) ?_
  refine lv_iconst (v := 0) C.1 C.2.1 dX10_scan_8 (by decide) ?_
  obtain ⟨σ9, e9, h⟩ := bnd h
  refine pfX10 C G X (k := 1) kd_1 5 (x := (0 : Int32)) (ty := .int) rfl rfl (Nat.le_of_ble_eq_true rfl) (by decide) k_170 rfl rfl (by decide +kernel) rfl rfl dX10_scan_9 (fun H locs X => ?_)
  replace X := pu_x e9 X
  refine lv_aload_n C.1 C.2.1 dX10_scan_12 rfl (lv_at hl 2 rfl) ?_
  refine lv_iconst (v := -1) C.1 C.2.1 dX10_scan_13 (by decide) ?_
  obtain ⟨σ14, e14, h⟩ := bnd h
  refine pfX10 C G X (k := 1) kd_1 6 (x := (-1 : Int32)) (ty := .int) rfl rfl (Nat.le_of_ble_eq_true rfl) (by decide) k_171 rfl rfl (by decide +kernel) rfl rfl dX10_scan_14 (fun H locs X => ?_)
  replace X := pu_x e14 X
  refine lv_iconst (v := 0) C.1 C.2.1 dX10_scan_17 (by decide) ?_
  refine lv_istore_n (lv' := [(3, .int (0 : Int32)), (2, .int (0 : Int32)), (1, .int r1), (0, .ref (gB E + 1))]) C.1 C.2.1 dX10_scan_18 rfl hl (by decide) rfl (fun ls hl => ?_)
  exact w_X10_scan_19 C G FU X (lv_sub hl [3, 2, 1, 0] rfl) h

theorem c_X10_scan (l : Launch) (E : GE) {σ : Mem} {r : Mem} (h : X10_scan σ = some r) : CtV l E yX10_scan cX10_scan 5 11 [.ref (gB E + 1)] σ r := by
  refine Met.ofW (cc := cX10_scan) (maxL := 5) (ret := none) (by decide) rfl ?_
  intro p e s m args below meth c s₁ B hml hv
  obtain ⟨rfl, G, X⟩ := start hv
  have C := cxof B hml
  have hl := lv_entry [.ref (gB E + 1)] (n := 5) (Nat.le_of_ble_eq_true rfl)
  rw [lg_entry_eq]
  generalize (lg_sl [.ref (gB E + 1)] ++ List.replicate (5 - (lg_sl [.ref (gB E + 1)]).length) Slot.unset).toArray = ls at hl ⊢
  exact w_X10_scan C G X hl h

set_option maxRecDepth 20000 in
theorem w_X6_copyFrom {r : Mem} {σ : Mem} {a0 : Nat} {a1 : Nat} {ls : Array Slot} {H : Heap} {locs : List Loc} (C : Cx p s m args meth c cX6_copyFrom none 2 RX6) (G : Gf E s) (X : Hx E σ s H locs) (hk_a0 : kd a0 = 1) (hk_a1 : kd a1 = 1) (hl : lv_has ls 2 [(0, .ref (gB E + a0)), (1, .ref (gB E + a1))]) (h : X6_copyFrom a0 a1 σ = some r) : W p l e (RM 2) s m args below meth c H locs 0 0 (QV E below args s r) (F0 m 0 ls []) := by
  rw [X6_copyFrom] at h
  refine lv_aload_n C.1 C.2.1 dX6_copyFrom_0 rfl (lv_at hl 1 rfl) ?_
  refine gfX6 C G X (k := a1) hk_a1 0 (v := .ref (gB E + (a1 + 1))) rfl rfl (by decide) k_157 rfl dX6_copyFrom_1 ?_
  refine lv_iconst (v := 0) C.1 C.2.1 dX6_copyFrom_4 (by decide) ?_
  refine lv_aload_n C.1 C.2.1 dX6_copyFrom_5 rfl (lv_at hl 0 rfl) ?_
  refine gfX6 C G X (k := a0) hk_a0 0 (v := .ref (gB E + (a0 + 1))) rfl rfl (by decide) k_157 rfl dX6_copyFrom_6 ?_
  refine lv_iconst (v := 0) C.1 C.2.1 dX6_copyFrom_9 (by decide) ?_
  refine lv_aload_n C.1 C.2.1 dX6_copyFrom_10 rfl (lv_at hl 0 rfl) ?_
  refine gfX6 C G X (k := a0) hk_a0 0 (v := .ref (gB E + (a0 + 1))) rfl rfl (by decide) k_157 rfl dX6_copyFrom_11 ?_
  refine aln C G X (kf_1_1 hk_a0) dX6_copyFrom_14 ?_
  refine lv_aload_n C.1 C.2.1 dX6_copyFrom_15 rfl (lv_at hl 1 rfl) ?_
  refine gfX6 C G X (k := a1) hk_a1 0 (v := .ref (gB E + (a1 + 1))) rfl rfl (by decide) k_157 rfl dX6_copyFrom_16 ?_
  refine aln C G X (kf_1_1 hk_a1) dX6_copyFrom_19 ?_
  refine mmin C hl.1 (cells := 0) k_478 ⟨Nat.le_of_ble_eq_true rfl, Nat.le_of_ble_eq_true rfl, Nat.le_of_ble_eq_true rfl, Nat.le_of_ble_eq_true rfl⟩ dX6_copyFrom_20 ?_
  obtain ⟨σ23, e23, h⟩ := bnd h
  refine acp C G X hl.1 (kf_1_1 hk_a1) (kf_1_1 hk_a0) e23 k_481 (by decide) dX6_copyFrom_23 (fun H locs X => ?_)
  rw [← Option.some.inj h]
  exact rtV C X dX6_copyFrom_26

theorem c_X6_copyFrom (l : Launch) (E : GE) {σ : Mem} {a0 : Nat} {a1 : Nat} (hk_a0 : kd a0 = 1) (hk_a1 : kd a1 = 1) {r : Mem} (h : X6_copyFrom a0 a1 σ = some r) : CtV l E yX6_copyFrom cX6_copyFrom 2 2 [.ref (gB E + a0), .ref (gB E + a1)] σ r := by
  refine Met.ofW (cc := cX6_copyFrom) (maxL := 2) (ret := none) (by decide) rfl ?_
  intro p e s m args below meth c s₁ B hml hv
  obtain ⟨rfl, G, X⟩ := start hv
  have C := cxof B hml
  have hl := lv_entry [.ref (gB E + a0), .ref (gB E + a1)] (n := 2) (Nat.le_of_ble_eq_true rfl)
  rw [lg_entry_eq]
  generalize (lg_sl [.ref (gB E + a0), .ref (gB E + a1)] ++ List.replicate (2 - (lg_sl [.ref (gB E + a0), .ref (gB E + a1)]).length) Slot.unset).toArray = ls at hl ⊢
  exact w_X6_copyFrom C G X hk_a0 hk_a1 hl h

set_option maxRecDepth 20000 in
theorem w_X7_copyFrom {r : Mem} {σ : Mem} {a0 : Nat} {a1 : Nat} {ls : Array Slot} {H : Heap} {locs : List Loc} (C : Cx p s m args meth c cX7_copyFrom none 2 RX7) (G : Gf E s) (X : Hx E σ s H locs) (hk_a0 : kd a0 = 2) (hk_a1 : kd a1 = 2) (hl : lv_has ls 2 [(0, .ref (gB E + a0)), (1, .ref (gB E + a1))]) (h : X7_copyFrom a0 a1 σ = some r) : W p l e (RM 3) s m args below meth c H locs 0 0 (QV E below args s r) (F0 m 0 ls []) := by
  rw [X7_copyFrom] at h
  refine lv_aload_n C.1 C.2.1 dX7_copyFrom_0 rfl (lv_at hl 0 rfl) ?_
  refine lv_aload_n C.1 C.2.1 dX7_copyFrom_1 rfl (lv_at hl 1 rfl) ?_
  refine gfX7 C G X (k := a1) hk_a1 0 (v := .int (σ a1 0)) rfl rfl (by decide) k_198 rfl dX7_copyFrom_2 ?_
  obtain ⟨σ5, e5, h⟩ := bnd h
  refine pfX7 C G X (k := a0) hk_a0 0 (x := (σ a1 0)) (ty := .int) rfl rfl (Nat.le_of_ble_eq_true rfl) (by decide) k_198 rfl rfl (by decide +kernel) rfl rfl dX7_copyFrom_5 (fun H locs X => ?_)
  replace X := pu_x e5 X
  refine lv_aload_n C.1 C.2.1 dX7_copyFrom_8 rfl (lv_at hl 0 rfl) ?_
  refine lv_aload_n C.1 C.2.1 dX7_copyFrom_9 rfl (lv_at hl 1 rfl) ?_
  refine gfX7 C G X (k := a1) hk_a1 1 (v := .int (σ5 a1 1)) rfl rfl (by decide) k_205 rfl dX7_copyFrom_10 ?_
  obtain ⟨σ13, e13, h⟩ := bnd h
  refine pfX7 C G X (k := a0) hk_a0 1 (x := (σ5 a1 1)) (ty := .int) rfl rfl (Nat.le_of_ble_eq_true rfl) (by decide) k_205 rfl rfl (by decide +kernel) rfl rfl dX7_copyFrom_13 (fun H locs X => ?_)
  replace X := pu_x e13 X
  refine lv_aload_n C.1 C.2.1 dX7_copyFrom_16 rfl (lv_at hl 0 rfl) ?_
  refine lv_aload_n C.1 C.2.1 dX7_copyFrom_17 rfl (lv_at hl 1 rfl) ?_
  refine gfX7 C G X (k := a1) hk_a1 2 (v := .int (σ13 a1 2)) rfl rfl (by decide) k_209 rfl dX7_copyFrom_18 ?_
  obtain ⟨σ21, e21, h⟩ := bnd h
  refine pfX7 C G X (k := a0) hk_a0 2 (x := (σ13 a1 2)) (ty := .int) rfl rfl (Nat.le_of_ble_eq_true rfl) (by decide) k_209 rfl rfl (by decide +kernel) rfl rfl dX7_copyFrom_21 (fun H locs X => ?_)
  replace X := pu_x e21 X
  refine lv_aload_n C.1 C.2.1 dX7_copyFrom_24 rfl (lv_at hl 0 rfl) ?_
  refine lv_aload_n C.1 C.2.1 dX7_copyFrom_25 rfl (lv_at hl 1 rfl) ?_
  refine gfX7 C G X (k := a1) hk_a1 3 (v := .int (σ21 a1 3)) rfl rfl (by decide) k_211 rfl dX7_copyFrom_26 ?_
  obtain ⟨σ29, e29, h⟩ := bnd h
  refine pfX7 C G X (k := a0) hk_a0 3 (x := (σ21 a1 3)) (ty := .int) rfl rfl (Nat.le_of_ble_eq_true rfl) (by decide) k_211 rfl rfl (by decide +kernel) rfl rfl dX7_copyFrom_29 (fun H locs X => ?_)
  replace X := pu_x e29 X
  refine lv_aload_n C.1 C.2.1 dX7_copyFrom_32 rfl (lv_at hl 0 rfl) ?_
  refine lv_aload_n C.1 C.2.1 dX7_copyFrom_33 rfl (lv_at hl 1 rfl) ?_
  refine gfX7 C G X (k := a1) hk_a1 4 (v := .int (σ29 a1 4)) rfl rfl (by decide) k_215 rfl dX7_copyFrom_34 ?_
  obtain ⟨σ37, e37, h⟩ := bnd h
  refine pfX7 C G X (k := a0) hk_a0 4 (x := (σ29 a1 4)) (ty := .int) rfl rfl (Nat.le_of_ble_eq_true rfl) (by decide) k_215 rfl rfl (by decide +kernel) rfl rfl dX7_copyFrom_37 (fun H locs X => ?_)
  replace X := pu_x e37 X
  refine lv_aload_n C.1 C.2.1 dX7_copyFrom_40 rfl (lv_at hl 0 rfl) ?_
  refine lv_aload_n C.1 C.2.1 dX7_copyFrom_41 rfl (lv_at hl 1 rfl) ?_
  refine gfX7 C G X (k := a1) hk_a1 5 (v := .int (σ37 a1 5)) rfl rfl (by decide) k_219 rfl dX7_copyFrom_42 ?_
  obtain ⟨σ45, e45, h⟩ := bnd h
  refine pfX7 C G X (k := a0) hk_a0 5 (x := (σ37 a1 5)) (ty := .int) rfl rfl (Nat.le_of_ble_eq_true rfl) (by decide) k_219 rfl rfl (by decide +kernel) rfl rfl dX7_copyFrom_45 (fun H locs X => ?_)
  replace X := pu_x e45 X
  refine lv_aload_n C.1 C.2.1 dX7_copyFrom_48 rfl (lv_at hl 0 rfl) ?_
  refine lv_aload_n C.1 C.2.1 dX7_copyFrom_49 rfl (lv_at hl 1 rfl) ?_
  refine gfX7 C G X (k := a1) hk_a1 6 (v := .int (σ45 a1 6)) rfl rfl (by decide) k_223 rfl dX7_copyFrom_50 ?_
  obtain ⟨u53, z53, h⟩ := bnd h
  obtain ⟨σ53, e53, h⟩ := bnd h
  refine pfX7 C G X (k := a0) hk_a0 6 (x := (σ45 a1 6)) (ty := .boolean) rfl rfl (Nat.le_of_ble_eq_true rfl) (by decide) k_223 rfl rfl (by decide +kernel) (gb_s z53).1 (gb_s z53).2 dX7_copyFrom_53 (fun H locs X => ?_)
  replace X := pu_x e53 X
  refine lv_aload_n C.1 C.2.1 dX7_copyFrom_56 rfl (lv_at hl 0 rfl) ?_
  refine lv_aload_n C.1 C.2.1 dX7_copyFrom_57 rfl (lv_at hl 1 rfl) ?_
  refine gfX7 C G X (k := a1) hk_a1 7 (v := .int (σ53 a1 7)) rfl rfl (by decide) k_226 rfl dX7_copyFrom_58 ?_
  obtain ⟨σ61, e61, h⟩ := bnd h
  refine pfX7 C G X (k := a0) hk_a0 7 (x := (σ53 a1 7)) (ty := .int) rfl rfl (Nat.le_of_ble_eq_true rfl) (by decide) k_226 rfl rfl (by decide +kernel) rfl rfl dX7_copyFrom_61 (fun H locs X => ?_)
  replace X := pu_x e61 X
  refine lv_aload_n C.1 C.2.1 dX7_copyFrom_64 rfl (lv_at hl 0 rfl) ?_
  refine lv_aload_n C.1 C.2.1 dX7_copyFrom_65 rfl (lv_at hl 1 rfl) ?_
  refine gfX7 C G X (k := a1) hk_a1 8 (v := .int (σ61 a1 8)) rfl rfl (by decide) k_229 rfl dX7_copyFrom_66 ?_
  obtain ⟨σ69, e69, h⟩ := bnd h
  refine pfX7 C G X (k := a0) hk_a0 8 (x := (σ61 a1 8)) (ty := .int) rfl rfl (Nat.le_of_ble_eq_true rfl) (by decide) k_229 rfl rfl (by decide +kernel) rfl rfl dX7_copyFrom_69 (fun H locs X => ?_)
  replace X := pu_x e69 X
  refine lv_aload_n C.1 C.2.1 dX7_copyFrom_72 rfl (lv_at hl 0 rfl) ?_
  refine gfX7 C G X (k := a0) hk_a0 9 (v := .ref (gB E + (a0 + 1))) rfl rfl (by decide) k_232 rfl dX7_copyFrom_73 ?_
  refine lv_aload_n C.1 C.2.1 dX7_copyFrom_76 rfl (lv_at hl 1 rfl) ?_
  refine gfX7 C G X (k := a1) hk_a1 9 (v := .ref (gB E + (a1 + 1))) rfl rfl (by decide) k_232 rfl dX7_copyFrom_77 ?_
  obtain ⟨σ80, e80, h⟩ := bnd h
  refine afV X (runV C G X q_X6_copyFrom k_475 k_476 k_474 (rcX6 G X (kf_2_1 hk_a0)) (c_X6_copyFrom l E (kf_2_1 hk_a0) (kf_2_1 hk_a1) e80) rfl hl.1 rfl (Nat.le_of_ble_eq_true rfl) ⟨Nat.le_of_ble_eq_true rfl, Nat.le_of_ble_eq_true rfl⟩ ⟨Nat.le_of_ble_eq_true rfl, Nat.le_of_ble_eq_true rfl⟩ dX7_copyFrom_80) (fun H locs X => ?_)
  refine lv_aload_n C.1 C.2.1 dX7_copyFrom_83 rfl (lv_at hl 0 rfl) ?_
  refine gfX7 C G X (k := a0) hk_a0 10 (v := .ref (gB E + (a0 + 3))) rfl rfl (by decide) k_235 rfl dX7_copyFrom_84 ?_
  refine lv_aload_n C.1 C.2.1 dX7_copyFrom_87 rfl (lv_at hl 1 rfl) ?_
  refine gfX7 C G X (k := a1) hk_a1 10 (v := .ref (gB E + (a1 + 3))) rfl rfl (by decide) k_235 rfl dX7_copyFrom_88 ?_
  obtain ⟨σ91, e91, h⟩ := bnd h
  refine afV X (runV C G X q_X6_copyFrom k_475 k_476 k_474 (rcX6 G X (kf_2_3 hk_a0)) (c_X6_copyFrom l E (kf_2_3 hk_a0) (kf_2_3 hk_a1) e91) rfl hl.1 rfl (Nat.le_of_ble_eq_true rfl) ⟨Nat.le_of_ble_eq_true rfl, Nat.le_of_ble_eq_true rfl⟩ ⟨Nat.le_of_ble_eq_true rfl, Nat.le_of_ble_eq_true rfl⟩ dX7_copyFrom_91) (fun H locs X => ?_)
  refine lv_aload_n C.1 C.2.1 dX7_copyFrom_94 rfl (lv_at hl 0 rfl) ?_
  refine gfX7 C G X (k := a0) hk_a0 11 (v := .ref (gB E + (a0 + 5))) rfl rfl (by decide) k_241 rfl dX7_copyFrom_95 ?_
  refine lv_aload_n C.1 C.2.1 dX7_copyFrom_98 rfl (lv_at hl 1 rfl) ?_
  refine gfX7 C G X (k := a1) hk_a1 11 (v := .ref (gB E + (a1 + 5))) rfl rfl (by decide) k_241 rfl dX7_copyFrom_99 ?_
  obtain ⟨σ102, e102, h⟩ := bnd h
  refine afV X (runV C G X q_X6_copyFrom k_475 k_476 k_474 (rcX6 G X (kf_2_5 hk_a0)) (c_X6_copyFrom l E (kf_2_5 hk_a0) (kf_2_5 hk_a1) e102) rfl hl.1 rfl (Nat.le_of_ble_eq_true rfl) ⟨Nat.le_of_ble_eq_true rfl, Nat.le_of_ble_eq_true rfl⟩ ⟨Nat.le_of_ble_eq_true rfl, Nat.le_of_ble_eq_true rfl⟩ dX7_copyFrom_102) (fun H locs X => ?_)
  refine lv_aload_n C.1 C.2.1 dX7_copyFrom_105 rfl (lv_at hl 0 rfl) ?_
  refine gfX7 C G X (k := a0) hk_a0 12 (v := .ref (gB E + (a0 + 7))) rfl rfl (by decide) k_245 rfl dX7_copyFrom_106 ?_
  refine lv_aload_n C.1 C.2.1 dX7_copyFrom_109 rfl (lv_at hl 1 rfl) ?_
  refine gfX7 C G X (k := a1) hk_a1 12 (v := .ref (gB E + (a1 + 7))) rfl rfl (by decide) k_245 rfl dX7_copyFrom_110 ?_
  obtain ⟨σ113, e113, h⟩ := bnd h
  refine afV X (runV C G X q_X6_copyFrom k_475 k_476 k_474 (rcX6 G X (kf_2_7 hk_a0)) (c_X6_copyFrom l E (kf_2_7 hk_a0) (kf_2_7 hk_a1) e113) rfl hl.1 rfl (Nat.le_of_ble_eq_true rfl) ⟨Nat.le_of_ble_eq_true rfl, Nat.le_of_ble_eq_true rfl⟩ ⟨Nat.le_of_ble_eq_true rfl, Nat.le_of_ble_eq_true rfl⟩ dX7_copyFrom_113) (fun H locs X => ?_)
  refine lv_aload_n C.1 C.2.1 dX7_copyFrom_116 rfl (lv_at hl 0 rfl) ?_
  refine gfX7 C G X (k := a0) hk_a0 13 (v := .ref (gB E + (a0 + 9))) rfl rfl (by decide) k_247 rfl dX7_copyFrom_117 ?_
  refine lv_aload_n C.1 C.2.1 dX7_copyFrom_120 rfl (lv_at hl 1 rfl) ?_
  refine gfX7 C G X (k := a1) hk_a1 13 (v := .ref (gB E + (a1 + 9))) rfl rfl (by decide) k_247 rfl dX7_copyFrom_121 ?_
  obtain ⟨σ124, e124, h⟩ := bnd h
  refine afV X (runV C G X q_X6_copyFrom k_475 k_476 k_474 (rcX6 G X (kf_2_9 hk_a0)) (c_X6_copyFrom l E (kf_2_9 hk_a0) (kf_2_9 hk_a1) e124) rfl hl.1 rfl (Nat.le_of_ble_eq_true rfl) ⟨Nat.le_of_ble_eq_true rfl, Nat.le_of_ble_eq_true rfl⟩ ⟨Nat.le_of_ble_eq_true rfl, Nat.le_of_ble_eq_true rfl⟩ dX7_copyFrom_124) (fun H locs X => ?_)
  refine lv_aload_n C.1 C.2.1 dX7_copyFrom_127 rfl (lv_at hl 0 rfl) ?_
  refine gfX7 C G X (k := a0) hk_a0 14 (v := .ref (gB E + (a0 + 11))) rfl rfl (by decide) k_251 rfl dX7_copyFrom_128 ?_
  refine lv_aload_n C.1 C.2.1 dX7_copyFrom_131 rfl (lv_at hl 1 rfl) ?_
  refine gfX7 C G X (k := a1) hk_a1 14 (v := .ref (gB E + (a1 + 11))) rfl rfl (by decide) k_251 rfl dX7_copyFrom_132 ?_
  obtain ⟨σ135, e135, h⟩ := bnd h
  refine afV X (runV C G X q_X6_copyFrom k_475 k_476 k_474 (rcX6 G X (kf_2_11 hk_a0)) (c_X6_copyFrom l E (kf_2_11 hk_a0) (kf_2_11 hk_a1) e135) rfl hl.1 rfl (Nat.le_of_ble_eq_true rfl) ⟨Nat.le_of_ble_eq_true rfl, Nat.le_of_ble_eq_true rfl⟩ ⟨Nat.le_of_ble_eq_true rfl, Nat.le_of_ble_eq_true rfl⟩ dX7_copyFrom_135) (fun H locs X => ?_)
  refine lv_aload_n C.1 C.2.1 dX7_copyFrom_138 rfl (lv_at hl 0 rfl) ?_
  refine gfX7 C G X (k := a0) hk_a0 15 (v := .ref (gB E + (a0 + 13))) rfl rfl (by decide) k_255 rfl dX7_copyFrom_139 ?_
  refine lv_aload_n C.1 C.2.1 dX7_copyFrom_142 rfl (lv_at hl 1 rfl) ?_
  refine gfX7 C G X (k := a1) hk_a1 15 (v := .ref (gB E + (a1 + 13))) rfl rfl (by decide) k_255 rfl dX7_copyFrom_143 ?_
  obtain ⟨σ146, e146, h⟩ := bnd h
  refine afV X (runV C G X q_X6_copyFrom k_475 k_476 k_474 (rcX6 G X (kf_2_13 hk_a0)) (c_X6_copyFrom l E (kf_2_13 hk_a0) (kf_2_13 hk_a1) e146) rfl hl.1 rfl (Nat.le_of_ble_eq_true rfl) ⟨Nat.le_of_ble_eq_true rfl, Nat.le_of_ble_eq_true rfl⟩ ⟨Nat.le_of_ble_eq_true rfl, Nat.le_of_ble_eq_true rfl⟩ dX7_copyFrom_146) (fun H locs X => ?_)
  refine lv_aload_n C.1 C.2.1 dX7_copyFrom_149 rfl (lv_at hl 0 rfl) ?_
  refine gfX7 C G X (k := a0) hk_a0 16 (v := .ref (gB E + (a0 + 15))) rfl rfl (by decide) k_258 rfl dX7_copyFrom_150 ?_
  refine lv_aload_n C.1 C.2.1 dX7_copyFrom_153 rfl (lv_at hl 1 rfl) ?_
  refine gfX7 C G X (k := a1) hk_a1 16 (v := .ref (gB E + (a1 + 15))) rfl rfl (by decide) k_258 rfl dX7_copyFrom_154 ?_
  obtain ⟨σ157, e157, h⟩ := bnd h
  refine afV X (runV C G X q_X6_copyFrom k_475 k_476 k_474 (rcX6 G X (kf_2_15 hk_a0)) (c_X6_copyFrom l E (kf_2_15 hk_a0) (kf_2_15 hk_a1) e157) rfl hl.1 rfl (Nat.le_of_ble_eq_true rfl) ⟨Nat.le_of_ble_eq_true rfl, Nat.le_of_ble_eq_true rfl⟩ ⟨Nat.le_of_ble_eq_true rfl, Nat.le_of_ble_eq_true rfl⟩ dX7_copyFrom_157) (fun H locs X => ?_)
  refine lv_aload_n C.1 C.2.1 dX7_copyFrom_160 rfl (lv_at hl 0 rfl) ?_
  refine gfX7 C G X (k := a0) hk_a0 17 (v := .ref (gB E + (a0 + 17))) rfl rfl (by decide) k_260 rfl dX7_copyFrom_161 ?_
  refine lv_aload_n C.1 C.2.1 dX7_copyFrom_164 rfl (lv_at hl 1 rfl) ?_
  refine gfX7 C G X (k := a1) hk_a1 17 (v := .ref (gB E + (a1 + 17))) rfl rfl (by decide) k_260 rfl dX7_copyFrom_165 ?_
  obtain ⟨σ168, e168, h⟩ := bnd h
  refine afV X (runV C G X q_X6_copyFrom k_475 k_476 k_474 (rcX6 G X (kf_2_17 hk_a0)) (c_X6_copyFrom l E (kf_2_17 hk_a0) (kf_2_17 hk_a1) e168) rfl hl.1 rfl (Nat.le_of_ble_eq_true rfl) ⟨Nat.le_of_ble_eq_true rfl, Nat.le_of_ble_eq_true rfl⟩ ⟨Nat.le_of_ble_eq_true rfl, Nat.le_of_ble_eq_true rfl⟩ dX7_copyFrom_168) (fun H locs X => ?_)
  refine lv_aload_n C.1 C.2.1 dX7_copyFrom_171 rfl (lv_at hl 0 rfl) ?_
  refine gfX7 C G X (k := a0) hk_a0 18 (v := .ref (gB E + (a0 + 19))) rfl rfl (by decide) k_261 rfl dX7_copyFrom_172 ?_
  refine lv_aload_n C.1 C.2.1 dX7_copyFrom_175 rfl (lv_at hl 1 rfl) ?_
  refine gfX7 C G X (k := a1) hk_a1 18 (v := .ref (gB E + (a1 + 19))) rfl rfl (by decide) k_261 rfl dX7_copyFrom_176 ?_
  obtain ⟨σ179, e179, h⟩ := bnd h
  refine afV X (runV C G X q_X6_copyFrom k_475 k_476 k_474 (rcX6 G X (kf_2_19 hk_a0)) (c_X6_copyFrom l E (kf_2_19 hk_a0) (kf_2_19 hk_a1) e179) rfl hl.1 rfl (Nat.le_of_ble_eq_true rfl) ⟨Nat.le_of_ble_eq_true rfl, Nat.le_of_ble_eq_true rfl⟩ ⟨Nat.le_of_ble_eq_true rfl, Nat.le_of_ble_eq_true rfl⟩ dX7_copyFrom_179) (fun H locs X => ?_)
  refine lv_aload_n C.1 C.2.1 dX7_copyFrom_182 rfl (lv_at hl 0 rfl) ?_
  refine lv_aload_n C.1 C.2.1 dX7_copyFrom_183 rfl (lv_at hl 1 rfl) ?_
  refine gfX7 C G X (k := a1) hk_a1 19 (v := .int (σ179 a1 19)) rfl rfl (by decide) k_262 rfl dX7_copyFrom_184 ?_
  obtain ⟨σ187, e187, h⟩ := bnd h
  refine pfX7 C G X (k := a0) hk_a0 19 (x := (σ179 a1 19)) (ty := .int) rfl rfl (Nat.le_of_ble_eq_true rfl) (by decide) k_262 rfl rfl (by decide +kernel) rfl rfl dX7_copyFrom_187 (fun H locs X => ?_)
  replace X := pu_x e187 X
  rw [← Option.some.inj h]
  exact rtV C X dX7_copyFrom_190

theorem c_X7_copyFrom (l : Launch) (E : GE) {σ : Mem} {a0 : Nat} {a1 : Nat} (hk_a0 : kd a0 = 2) (hk_a1 : kd a1 = 2) {r : Mem} (h : X7_copyFrom a0 a1 σ = some r) : CtV l E yX7_copyFrom cX7_copyFrom 2 3 [.ref (gB E + a0), .ref (gB E + a1)] σ r := by
  refine Met.ofW (cc := cX7_copyFrom) (maxL := 2) (ret := none) (by decide) rfl ?_
  intro p e s m args below meth c s₁ B hml hv
  obtain ⟨rfl, G, X⟩ := start hv
  have C := cxof B hml
  have hl := lv_entry [.ref (gB E + a0), .ref (gB E + a1)] (n := 2) (Nat.le_of_ble_eq_true rfl)
  rw [lg_entry_eq]
  generalize (lg_sl [.ref (gB E + a0), .ref (gB E + a1)] ++ List.replicate (2 - (lg_sl [.ref (gB E + a0), .ref (gB E + a1)]).length) Slot.unset).toArray = ls at hl ⊢
  exact w_X7_copyFrom C G X hk_a0 hk_a1 hl h

set_option maxRecDepth 20000 in
theorem w_X10_term_32 {r : Int32} {σ : Mem} {u0 : Int32} {ls : Array Slot} {H : Heap} {locs : List Loc} (C : Cx p s m args meth c cX10_term (some (.object "PaneStreet$Term")) 2 RX10) (G : Gf E s) (X : Hx E σ s H locs) (hl : lv_has ls 2 []) (h : X10_term_32 σ u0 = some r) : W p l e (RM 1) s m args below meth c H locs 0 0 (QT E below args s r σ) (F0 m 32 ls [tV E u0]) := by
  rw [X10_term_32] at h
  refine lq_astore_n (lv' := [(1, tV E u0)]) C.1 C.2.1 dX10_term_32 rfl hl (by decide) rfl (fun ls hl => ?_)
  refine lq_aload_n C.1 C.2.1 dX10_term_33 rfl (lv_at hl 0 rfl) ?_
  refine ifnonnull_T (tgt := 43) C dX10_term_34 (by decide) (fun c34 => ?_) (fun c34 => ?_)
  · replace h := ineg c34 h
    refine lq_aload_n C.1 C.2.1 dX10_term_43 rfl (lv_at hl 0 rfl) ?_
    rw [← Option.some.inj h]
    exact rtQ C X dX10_term_44
  · replace h := ipos c34 h
    refine gsT C G X (i := 0) (x := 1) (by decide) (by decide) (nm := "END") rfl k_828 dX10_term_37 ?_
    refine lv_goto (tgt := 44) C.1 C.2.1 dX10_term_40 (by decide) ?_
    rw [← Option.some.inj h]
    exact rtQ C X dX10_term_44

set_option maxRecDepth 20000 in
theorem w_X10_term_31 {r : Int32} {σ : Mem} {ls : Array Slot} {H : Heap} {locs : List Loc} (C : Cx p s m args meth c cX10_term (some (.object "PaneStreet$Term")) 2 RX10) (G : Gf E s) (X : Hx E σ s H locs) (hl : lv_has ls 2 []) (h : X10_term_31 σ = some r) : W p l e (RM 1) s m args below meth c H locs 0 0 (QT E below args s r σ) (F0 m 31 ls []) := by
  rw [X10_term_31] at h
  refine lv_null C.1 C.2.1 dX10_term_31 ?_
  exact w_X10_term_32 C G X (lv_sub hl [] rfl) h

set_option maxRecDepth 20000 in
theorem w_X10_term {r : Int32} {σ : Mem} {ls : Array Slot} {H : Heap} {locs : List Loc} (C : Cx p s m args meth c cX10_term (some (.object "PaneStreet$Term")) 2 RX10) (G : Gf E s) (X : Hx E σ s H locs) (hl : lv_has ls 2 [(0, .ref (gB E + 1))]) (h : X10_term σ = some r) : W p l e (RM 1) s m args below meth c H locs 0 0 (QT E below args s r σ) (F0 m 0 ls []) := by
  rw [X10_term] at h
  refine lv_aload_n C.1 C.2.1 dX10_term_0 rfl (lv_at hl 0 rfl) ?_
  refine gfX10 C G X (k := 1) kd_1 5 (v := .int (σ 1 5)) rfl rfl (by decide) k_170 rfl dX10_term_1 ?_
  refine lv_if_lt (tgt := 31) C.1 C.2.1 dX10_term_4 (by decide) (fun c4 => ?_) (fun c4 => ?_)
  · replace h := ipos c4 h
    exact w_X10_term_31 C G X (lv_sub hl [] rfl) h
  · replace h := ineg c4 h
    refine lv_aload_n C.1 C.2.1 dX10_term_7 rfl (lv_at hl 0 rfl) ?_
    refine gfX10 C G X (k := 1) kd_1 5 (v := .int (σ 1 5)) rfl rfl (by decide) k_170 rfl dX10_term_8 ?_
    refine lv_aload_n C.1 C.2.1 dX10_term_11 rfl (lv_at hl 0 rfl) ?_
    refine gfX10 C G X (k := 1) kd_1 2 (v := .ref (gB E + 4)) rfl rfl (by decide) k_167 rfl dX10_term_12 ?_
    refine alnT C G X kd_4 dX10_term_15 ?_
    refine lv_icmp_ge (tgt := 31) C.1 C.2.1 dX10_term_16 (by decide) (fun c16 => ?_) (fun c16 => ?_)
    · replace h := ipos c16 h
      exact w_X10_term_31 C G X (lv_sub hl [] rfl) h
    · replace h := ineg c16 h
      refine lv_aload_n C.1 C.2.1 dX10_term_19 rfl (lv_at hl 0 rfl) ?_
      refine gfX10 C G X (k := 1) kd_1 2 (v := .ref (gB E + 4)) rfl rfl (by decide) k_167 rfl dX10_term_20 ?_
      refine lv_aload_n C.1 C.2.1 dX10_term_23 rfl (lv_at hl 0 rfl) ?_
      refine gfX10 C G X (k := 1) kd_1 5 (v := .int (σ 1 5)) rfl rfl (by decide) k_170 rfl dX10_term_24 ?_
      obtain ⟨r27, e27, h⟩ := bnd h
      refine aldT C G X (k := 4) kd_4 (ag_s e27).1 dX10_term_27 ?_
      rw [(ag_s e27).2]
      refine lv_goto (tgt := 32) C.1 C.2.1 dX10_term_28 (by decide) ?_
      exact w_X10_term_32 C G X (lv_sub hl [] rfl) h

theorem c_X10_term (l : Launch) (E : GE) {σ : Mem} {r : Int32} (h : X10_term σ = some r) : CtT l E yX10_term cX10_term 2 (.object "PaneStreet$Term") 1 [.ref (gB E + 1)] σ r σ := by
  refine Met.ofW (cc := cX10_term) (maxL := 2) (ret := (some (.object "PaneStreet$Term"))) (by decide) rfl ?_
  intro p e s m args below meth c s₁ B hml hv
  obtain ⟨rfl, G, X⟩ := start hv
  have C := cxof B hml
  have hl := lv_entry [.ref (gB E + 1)] (n := 2) (Nat.le_of_ble_eq_true rfl)
  rw [lg_entry_eq]
  generalize (lg_sl [.ref (gB E + 1)] ++ List.replicate (2 - (lg_sl [.ref (gB E + 1)]).length) Slot.unset).toArray = ls at hl ⊢
  exact w_X10_term C G X hl h

set_option maxRecDepth 20000 in
theorem w_X10_is {r : Int32} {σ : Mem} {t1 : Int32} {ls : Array Slot} {H : Heap} {locs : List Loc} (C : Cx p s m args meth c cX10_is (some .boolean) 2 RX10) (G : Gf E s) (X : Hx E σ s H locs) (hl : lv_has ls 2 [(0, .ref (gB E + 1)), (1, tV E t1)]) (h : X10_is σ t1 = some r) : W p l e (RM 2) s m args below meth c H locs 0 0 (QI E below args s r σ) (F0 m 0 ls []) := by
  rw [X10_is] at h
  refine lv_aload_n C.1 C.2.1 dX10_is_0 rfl (lv_at hl 0 rfl) ?_
  obtain ⟨r1, e1, h⟩ := bnd h
  refine afQ X (runV C G X q_X10_term k_904 k_905 k_903 (rcX10 G X kd_1) (c_X10_term l E e1) rfl hl.1 rfl (Nat.le_of_ble_eq_true rfl) ⟨Nat.le_of_ble_eq_true rfl, Nat.le_of_ble_eq_true rfl⟩ ⟨Nat.le_of_ble_eq_true rfl, Nat.le_of_ble_eq_true rfl⟩ dX10_is_1) (fun H locs X => ?_)
  refine lq_aload_n C.1 C.2.1 dX10_is_4 rfl (lv_at hl 1 rfl) ?_
  obtain ⟨u5, z5, h⟩ := bnd h
  refine ac_ne (tgt := 12) C G z5 dX10_is_5 (by decide) (fun c5 => ?_) (fun c5 => ?_)
  · replace h := ineg c5 h
    refine lv_iconst (v := 0) C.1 C.2.1 dX10_is_12 (by decide) ?_
    obtain ⟨u13, z13, h⟩ := bnd h
    rw [← Option.some.inj h]
    exact rtZ C X (gb_s z13) dX10_is_13
  · replace h := ipos c5 h
    refine lv_iconst (v := 1) C.1 C.2.1 dX10_is_8 (by decide) ?_
    refine lv_goto (tgt := 13) C.1 C.2.1 dX10_is_9 (by decide) ?_
    obtain ⟨u13, z13, h⟩ := bnd h
    rw [← Option.some.inj h]
    exact rtZ C X (gb_s z13) dX10_is_13

theorem c_X10_is (l : Launch) (E : GE) {σ : Mem} {t1 : Int32} {r : Int32} (h : X10_is σ t1 = some r) : CtI l E yX10_is cX10_is 2 .boolean 2 [.ref (gB E + 1), tV E t1] σ r σ := by
  refine Met.ofW (cc := cX10_is) (maxL := 2) (ret := (some .boolean)) (by decide) rfl ?_
  intro p e s m args below meth c s₁ B hml hv
  obtain ⟨rfl, G, X⟩ := start hv
  have C := cxof B hml
  have hl := lv_entry [.ref (gB E + 1), tV E t1] (n := 2) (by unfold tV; cases tO E t1 <;> exact Nat.le_of_ble_eq_true rfl)
  rw [lg_entry_eq]
  generalize (lg_sl [.ref (gB E + 1), tV E t1] ++ List.replicate (2 - (lg_sl [.ref (gB E + 1), tV E t1]).length) Slot.unset).toArray = ls at hl ⊢
  exact w_X10_is C G X hl h

set_option maxRecDepth 20000 in
theorem w_X10_take {r : (Int32 × Mem)} {σ : Mem} {t1 : Int32} {ls : Array Slot} {H : Heap} {locs : List Loc} (C : Cx p s m args meth c cX10_take (some .boolean) 2 RX10) (G : Gf E s) (X : Hx E σ s H locs) (hl : lv_has ls 2 [(0, .ref (gB E + 1)), (1, tV E t1)]) (h : X10_take t1 σ = some r) : W p l e (RM 2) s m args below meth c H locs 0 0 (QI E below args s r.1 r.2) (F0 m 0 ls []) := by
  rw [X10_take] at h
  refine lv_aload_n C.1 C.2.1 dX10_take_0 rfl (lv_at hl 0 rfl) ?_
  obtain ⟨r1, e1, h⟩ := bnd h
  refine afQ X (runV C G X q_X10_term k_904 k_905 k_903 (rcX10 G X kd_1) (c_X10_term l E e1) rfl hl.1 rfl (Nat.le_of_ble_eq_true rfl) ⟨Nat.le_of_ble_eq_true rfl, Nat.le_of_ble_eq_true rfl⟩ ⟨Nat.le_of_ble_eq_true rfl, Nat.le_of_ble_eq_true rfl⟩ dX10_take_1) (fun H locs X => ?_)
  refine lq_aload_n C.1 C.2.1 dX10_take_4 rfl (lv_at hl 1 rfl) ?_
  obtain ⟨u5, z5, h⟩ := bnd h
  refine ac_eq (tgt := 10) C G z5 dX10_take_5 (by decide) (fun c5 => ?_) (fun c5 => ?_)
  · replace h := ipos c5 h
    refine lv_aload_n C.1 C.2.1 dX10_take_10 rfl (lv_at hl 0 rfl) ?_
    refine lv_dup C.1 C.2.1 dX10_take_11 rfl ?_
    refine gfX10 C G X (k := 1) kd_1 5 (v := .int (σ 1 5)) rfl rfl (by decide) k_170 rfl dX10_take_12 ?_
    refine lv_iconst (v := 1) C.1 C.2.1 dX10_take_15 (by decide) ?_
    refine lv_iadd C.1 C.2.1 dX10_take_16 ?_
    obtain ⟨σ17, e17, h⟩ := bnd h
    refine pfX10 C G X (k := 1) kd_1 5 (x := ((σ 1 5) + (1 : Int32))) (ty := .int) rfl rfl (Nat.le_of_ble_eq_true rfl) (by decide) k_170 rfl rfl (by decide +kernel) rfl rfl dX10_take_17 (fun H locs X => ?_)
    replace X := pu_x e17 X
    refine lv_iconst (v := 1) C.1 C.2.1 dX10_take_20 (by decide) ?_
    obtain ⟨u21, z21, h⟩ := bnd h
    rw [← Option.some.inj h]
    exact rtZ C X (gb_s z21) dX10_take_21
  · replace h := ineg c5 h
    refine lv_iconst (v := 0) C.1 C.2.1 dX10_take_8 (by decide) ?_
    obtain ⟨u9, z9, h⟩ := bnd h
    rw [← Option.some.inj h]
    exact rtZ C X (gb_s z9) dX10_take_9

theorem c_X10_take (l : Launch) (E : GE) {σ : Mem} {t1 : Int32} {r : (Int32 × Mem)} (h : X10_take t1 σ = some r) : CtI l E yX10_take cX10_take 2 .boolean 2 [.ref (gB E + 1), tV E t1] σ r.1 r.2 := by
  refine Met.ofW (cc := cX10_take) (maxL := 2) (ret := (some .boolean)) (by decide) rfl ?_
  intro p e s m args below meth c s₁ B hml hv
  obtain ⟨rfl, G, X⟩ := start hv
  have C := cxof B hml
  have hl := lv_entry [.ref (gB E + 1), tV E t1] (n := 2) (by unfold tV; cases tO E t1 <;> exact Nat.le_of_ble_eq_true rfl)
  rw [lg_entry_eq]
  generalize (lg_sl [.ref (gB E + 1), tV E t1] ++ List.replicate (2 - (lg_sl [.ref (gB E + 1), tV E t1]).length) Slot.unset).toArray = ls at hl ⊢
  exact w_X10_take C G X hl h

set_option maxRecDepth 20000 in
theorem w_X10_wrong {r : (Int32 × Mem)} {σ : Mem} {ls : Array Slot} {H : Heap} {locs : List Loc} (C : Cx p s m args meth c cX10_wrong (some .boolean) 1 RX10) (G : Gf E s) (X : Hx E σ s H locs) (hl : lv_has ls 1 [(0, .ref (gB E + 1))]) (h : X10_wrong σ = some r) : W p l e (RM 2) s m args below meth c H locs 0 0 (QI E below args s r.1 r.2) (F0 m 0 ls []) := by
  rw [X10_wrong] at h
  refine lv_aload_n C.1 C.2.1 dX10_wrong_0 rfl (lv_at hl 0 rfl) ?_
  refine lv_aload_n C.1 C.2.1 dX10_wrong_1 rfl (lv_at hl 0 rfl) ?_
  refine gfX10 C G X (k := 1) kd_1 3 (v := .ref (gB E + 5)) rfl rfl (by decide) k_168 rfl dX10_wrong_2 ?_
  refine lv_aload_n C.1 C.2.1 dX10_wrong_5 rfl (lv_at hl 0 rfl) ?_
  refine gfX10 C G X (k := 1) kd_1 5 (v := .int (σ 1 5)) rfl rfl (by decide) k_170 rfl dX10_wrong_6 ?_
  obtain ⟨r9, e9, h⟩ := bnd h
  refine afI X (runV C G X q_X6_get k_498 k_499 k_815 (rcX6 G X kd_5) (c_X6_get l E kd_5 e9) rfl hl.1 rfl (Nat.le_of_ble_eq_true rfl) ⟨Nat.le_of_ble_eq_true rfl, Nat.le_of_ble_eq_true rfl⟩ ⟨Nat.le_of_ble_eq_true rfl, Nat.le_of_ble_eq_true rfl⟩ dX10_wrong_9) (fun H locs X => ?_)
  obtain ⟨σ12, e12, h⟩ := bnd h
  refine pfX10 C G X (k := 1) kd_1 6 (x := r9) (ty := .int) rfl rfl (Nat.le_of_ble_eq_true rfl) (by decide) k_171 rfl rfl (by decide +kernel) rfl rfl dX10_wrong_12 (fun H locs X => ?_)
  replace X := pu_x e12 X
  refine lv_iconst (v := 0) C.1 C.2.1 dX10_wrong_15 (by decide) ?_
  obtain ⟨u16, z16, h⟩ := bnd h
  rw [← Option.some.inj h]
  exact rtZ C X (gb_s z16) dX10_wrong_16

theorem c_X10_wrong (l : Launch) (E : GE) {σ : Mem} {r : (Int32 × Mem)} (h : X10_wrong σ = some r) : CtI l E yX10_wrong cX10_wrong 1 .boolean 2 [.ref (gB E + 1)] σ r.1 r.2 := by
  refine Met.ofW (cc := cX10_wrong) (maxL := 1) (ret := (some .boolean)) (by decide) rfl ?_
  intro p e s m args below meth c s₁ B hml hv
  obtain ⟨rfl, G, X⟩ := start hv
  have C := cxof B hml
  have hl := lv_entry [.ref (gB E + 1)] (n := 1) (Nat.le_of_ble_eq_true rfl)
  rw [lg_entry_eq]
  generalize (lg_sl [.ref (gB E + 1)] ++ List.replicate (1 - (lg_sl [.ref (gB E + 1)]).length) Slot.unset).toArray = ls at hl ⊢
  exact w_X10_wrong C G X hl h

set_option maxRecDepth 20000 in
theorem w_X10_need {r : (Int32 × Mem)} {σ : Mem} {t1 : Int32} {ls : Array Slot} {H : Heap} {locs : List Loc} (C : Cx p s m args meth c cX10_need (some .boolean) 2 RX10) (G : Gf E s) (X : Hx E σ s H locs) (hl : lv_has ls 2 [(0, .ref (gB E + 1)), (1, tV E t1)]) (h : X10_need t1 σ = some r) : W p l e (RM 3) s m args below meth c H locs 0 0 (QI E below args s r.1 r.2) (F0 m 0 ls []) := by
  rw [X10_need] at h
  refine lv_aload_n C.1 C.2.1 dX10_need_0 rfl (lv_at hl 0 rfl) ?_
  refine lq_aload_n C.1 C.2.1 dX10_need_1 rfl (lv_at hl 1 rfl) ?_
  obtain ⟨r2, σ2, e2, h⟩ := bnd2 h
  refine afI (r0 := r2) (σ' := σ2) X (runV C G X q_X10_take k_914 k_915 k_913 (rcX10 G X kd_1) (c_X10_take l E e2) rfl hl.1 rfl (Nat.le_of_ble_eq_true rfl) ⟨Nat.le_of_ble_eq_true rfl, Nat.le_of_ble_eq_true rfl⟩ ⟨Nat.le_of_ble_eq_true rfl, Nat.le_of_ble_eq_true rfl⟩ dX10_need_2) (fun H locs X => ?_)
  refine lv_if_ne (tgt := 15) C.1 C.2.1 dX10_need_5 (by decide) (fun c5 => ?_) (fun c5 => ?_)
  · replace h := ineg c5 h
    refine lv_iconst (v := 1) C.1 C.2.1 dX10_need_15 (by decide) ?_
    refine lv_goto (tgt := 20) C.1 C.2.1 dX10_need_16 (by decide) ?_
    obtain ⟨u20, z20, h⟩ := bnd h
    rw [← Option.some.inj h]
    exact rtZ C X (gb_s z20) dX10_need_20
  · replace h := ipos c5 h
    refine lv_aload_n C.1 C.2.1 dX10_need_8 rfl (lv_at hl 0 rfl) ?_
    obtain ⟨r9, σ9, e9, h⟩ := bnd2 h
    refine afI (r0 := r9) (σ' := σ9) X (runV C G X q_X10_wrong k_918 k_919 k_917 (rcX10 G X kd_1) (c_X10_wrong l E e9) rfl hl.1 rfl (Nat.le_of_ble_eq_true rfl) ⟨Nat.le_of_ble_eq_true rfl, Nat.le_of_ble_eq_true rfl⟩ ⟨Nat.le_of_ble_eq_true rfl, Nat.le_of_ble_eq_true rfl⟩ dX10_need_9) (fun H locs X => ?_)
    refine lv_if_eq (tgt := 19) C.1 C.2.1 dX10_need_12 (by decide) (fun c12 => ?_) (fun c12 => ?_)
    · replace h := ipos c12 h
      refine lv_iconst (v := 0) C.1 C.2.1 dX10_need_19 (by decide) ?_
      obtain ⟨u20, z20, h⟩ := bnd h
      rw [← Option.some.inj h]
      exact rtZ C X (gb_s z20) dX10_need_20
    · replace h := ineg c12 h
      refine lv_iconst (v := 1) C.1 C.2.1 dX10_need_15 (by decide) ?_
      refine lv_goto (tgt := 20) C.1 C.2.1 dX10_need_16 (by decide) ?_
      obtain ⟨u20, z20, h⟩ := bnd h
      rw [← Option.some.inj h]
      exact rtZ C X (gb_s z20) dX10_need_20

theorem c_X10_need (l : Launch) (E : GE) {σ : Mem} {t1 : Int32} {r : (Int32 × Mem)} (h : X10_need t1 σ = some r) : CtI l E yX10_need cX10_need 2 .boolean 3 [.ref (gB E + 1), tV E t1] σ r.1 r.2 := by
  refine Met.ofW (cc := cX10_need) (maxL := 2) (ret := (some .boolean)) (by decide) rfl ?_
  intro p e s m args below meth c s₁ B hml hv
  obtain ⟨rfl, G, X⟩ := start hv
  have C := cxof B hml
  have hl := lv_entry [.ref (gB E + 1), tV E t1] (n := 2) (by unfold tV; cases tO E t1 <;> exact Nat.le_of_ble_eq_true rfl)
  rw [lg_entry_eq]
  generalize (lg_sl [.ref (gB E + 1), tV E t1] ++ List.replicate (2 - (lg_sl [.ref (gB E + 1), tV E t1]).length) Slot.unset).toArray = ls at hl ⊢
  exact w_X10_need C G X hl h

set_option maxRecDepth 20000 in
theorem w_X10_hasLine_26 {r : (Int32 × Mem)} {σ : Mem} {x1 : Int32} {x2 : Int32} {ls : Array Slot} {H : Heap} {locs : List Loc} (C : Cx p s m args meth c cX10_hasLine (some .boolean) 3 RX10) (G : Gf E s) (X : Hx E σ s H locs) (hl : lv_has ls 3 [(0, .ref (gB E + 1)), (1, .int x1), (2, .int x2)]) (h : X10_hasLine_26 x1 x2 σ = some r) : W p l e (RM 4) s m args below meth c H locs 0 0 (QI E below args s r.1 r.2) (F0 m 26 ls []) := by
  rw [X10_hasLine_26] at h
  refine lv_iload_n C.1 C.2.1 dX10_hasLine_26 rfl (lv_at hl 1 rfl) ?_
  refine lv_iload_n C.1 C.2.1 dX10_hasLine_27 rfl (lv_at hl 2 rfl) ?_
  refine lv_icmp_lt (tgt := 38) C.1 C.2.1 dX10_hasLine_28 (by decide) (fun c28 => ?_) (fun c28 => ?_)
  · replace h := ipos c28 h
    refine lv_iconst (v := 1) C.1 C.2.1 dX10_hasLine_38 (by decide) ?_
    refine lv_goto (tgt := 43) C.1 C.2.1 dX10_hasLine_39 (by decide) ?_
    obtain ⟨u43, z43, h⟩ := bnd h
    rw [← Option.some.inj h]
    exact rtZ C X (gb_s z43) dX10_hasLine_43
  · replace h := ineg c28 h
    refine lv_aload_n C.1 C.2.1 dX10_hasLine_31 rfl (lv_at hl 0 rfl) ?_
    obtain ⟨r32, σ32, e32, h⟩ := bnd2 h
    refine afI (r0 := r32) (σ' := σ32) X (runV C G X q_X10_wrong k_918 k_919 k_917 (rcX10 G X kd_1) (c_X10_wrong l E e32) rfl hl.1 rfl (Nat.le_of_ble_eq_true rfl) ⟨Nat.le_of_ble_eq_true rfl, Nat.le_of_ble_eq_true rfl⟩ ⟨Nat.le_of_ble_eq_true rfl, Nat.le_of_ble_eq_true rfl⟩ dX10_hasLine_32) (fun H locs X => ?_)
    refine lv_if_eq (tgt := 42) C.1 C.2.1 dX10_hasLine_35 (by decide) (fun c35 => ?_) (fun c35 => ?_)
    · replace h := ipos c35 h
      refine lv_iconst (v := 0) C.1 C.2.1 dX10_hasLine_42 (by decide) ?_
      obtain ⟨u43, z43, h⟩ := bnd h
      rw [← Option.some.inj h]
      exact rtZ C X (gb_s z43) dX10_hasLine_43
    · replace h := ineg c35 h
      refine lv_iconst (v := 1) C.1 C.2.1 dX10_hasLine_38 (by decide) ?_
      refine lv_goto (tgt := 43) C.1 C.2.1 dX10_hasLine_39 (by decide) ?_
      obtain ⟨u43, z43, h⟩ := bnd h
      rw [← Option.some.inj h]
      exact rtZ C X (gb_s z43) dX10_hasLine_43

set_option maxRecDepth 20000 in
theorem w_X10_hasLine {r : (Int32 × Mem)} {σ : Mem} {x1 : Int32} {x2 : Int32} {ls : Array Slot} {H : Heap} {locs : List Loc} (C : Cx p s m args meth c cX10_hasLine (some .boolean) 3 RX10) (G : Gf E s) (X : Hx E σ s H locs) (hl : lv_has ls 3 [(0, .ref (gB E + 1)), (1, .int x1), (2, .int x2)]) (h : X10_hasLine x1 x2 σ = some r) : W p l e (RM 4) s m args below meth c H locs 0 0 (QI E below args s r.1 r.2) (F0 m 0 ls []) := by
  rw [X10_hasLine] at h
  refine lv_aload_n C.1 C.2.1 dX10_hasLine_0 rfl (lv_at hl 0 rfl) ?_
  refine gsT C G X (i := 0) (x := 1) (by decide) (by decide) (nm := "END") rfl k_828 dX10_hasLine_1 ?_
  obtain ⟨r4, e4, h⟩ := bnd h
  refine afI X (runV C G X q_X10_is k_900 k_901 k_899 (rcX10 G X kd_1) (c_X10_is l E e4) rfl hl.1 rfl (Nat.le_of_ble_eq_true rfl) ⟨Nat.le_of_ble_eq_true rfl, Nat.le_of_ble_eq_true rfl⟩ ⟨Nat.le_of_ble_eq_true rfl, Nat.le_of_ble_eq_true rfl⟩ dX10_hasLine_4) (fun H locs X => ?_)
  refine lv_if_ne (tgt := 24) C.1 C.2.1 dX10_hasLine_7 (by decide) (fun c7 => ?_) (fun c7 => ?_)
  · replace h := ineg c7 h
    refine lv_iconst (v := 0) C.1 C.2.1 dX10_hasLine_24 (by decide) ?_
    obtain ⟨u25, z25, h⟩ := bnd h
    rw [← Option.some.inj h]
    exact rtZ C X (gb_s z25) dX10_hasLine_25
  · replace h := ipos c7 h
    refine lv_iload_n C.1 C.2.1 dX10_hasLine_10 rfl (lv_at hl 1 rfl) ?_
    refine lv_if_le (tgt := 26) C.1 C.2.1 dX10_hasLine_11 (by decide) (fun c11 => ?_) (fun c11 => ?_)
    · replace h := ipos c11 h
      exact w_X10_hasLine_26 C G X (lv_sub hl [0, 1, 2] rfl) h
    · replace h := ineg c11 h
      refine lv_aload_n C.1 C.2.1 dX10_hasLine_14 rfl (lv_at hl 0 rfl) ?_
      refine gsT C G X (i := 3) (x := 4) (by decide) (by decide) (nm := "NEXT_LINE") rfl k_907 dX10_hasLine_15 ?_
      obtain ⟨r18, σ18, e18, h⟩ := bnd2 h
      refine afI (r0 := r18) (σ' := σ18) X (runV C G X q_X10_need k_910 k_911 k_909 (rcX10 G X kd_1) (c_X10_need l E e18) rfl hl.1 rfl (Nat.le_of_ble_eq_true rfl) ⟨Nat.le_of_ble_eq_true rfl, Nat.le_of_ble_eq_true rfl⟩ ⟨Nat.le_of_ble_eq_true rfl, Nat.le_of_ble_eq_true rfl⟩ dX10_hasLine_18) (fun H locs X => ?_)
      refine lv_if_ne (tgt := 26) C.1 C.2.1 dX10_hasLine_21 (by decide) (fun c21 => ?_) (fun c21 => ?_)
      · replace h := ineg c21 h
        exact w_X10_hasLine_26 C G X (lv_sub hl [0, 1, 2] rfl) h
      · replace h := ipos c21 h
        refine lv_iconst (v := 0) C.1 C.2.1 dX10_hasLine_24 (by decide) ?_
        obtain ⟨u25, z25, h⟩ := bnd h
        rw [← Option.some.inj h]
        exact rtZ C X (gb_s z25) dX10_hasLine_25

theorem c_X10_hasLine (l : Launch) (E : GE) {σ : Mem} {x1 : Int32} {x2 : Int32} {r : (Int32 × Mem)} (h : X10_hasLine x1 x2 σ = some r) : CtI l E yX10_hasLine cX10_hasLine 3 .boolean 4 [.ref (gB E + 1), .int x1, .int x2] σ r.1 r.2 := by
  refine Met.ofW (cc := cX10_hasLine) (maxL := 3) (ret := (some .boolean)) (by decide) rfl ?_
  intro p e s m args below meth c s₁ B hml hv
  obtain ⟨rfl, G, X⟩ := start hv
  have C := cxof B hml
  have hl := lv_entry [.ref (gB E + 1), .int x1, .int x2] (n := 3) (Nat.le_of_ble_eq_true rfl)
  rw [lg_entry_eq]
  generalize (lg_sl [.ref (gB E + 1), .int x1, .int x2] ++ List.replicate (3 - (lg_sl [.ref (gB E + 1), .int x1, .int x2]).length) Slot.unset).toArray = ls at hl ⊢
  exact w_X10_hasLine C G X hl h

set_option maxRecDepth 20000 in
theorem w_X10_needUpTo_25 {r : (Int32 × Mem)} {σ : Mem} {ls : Array Slot} {H : Heap} {locs : List Loc} (C : Cx p s m args meth c cX10_needUpTo (some .int) 2 RX10) (G : Gf E s) (X : Hx E σ s H locs) (hl : lv_has ls 2 [(0, .ref (gB E + 1))]) (h : X10_needUpTo_25 σ = some r) : W p l e (RM 2) s m args below meth c H locs 0 0 (QI E below args s r.1 r.2) (F0 m 25 ls []) := by
  rw [X10_needUpTo_25] at h
  refine lv_aload_n C.1 C.2.1 dX10_needUpTo_25 rfl (lv_at hl 0 rfl) ?_
  refine lv_aload_n C.1 C.2.1 dX10_needUpTo_26 rfl (lv_at hl 0 rfl) ?_
  refine gfX10 C G X (k := 1) kd_1 3 (v := .ref (gB E + 5)) rfl rfl (by decide) k_168 rfl dX10_needUpTo_27 ?_
  refine lv_aload_n C.1 C.2.1 dX10_needUpTo_30 rfl (lv_at hl 0 rfl) ?_
  refine gfX10 C G X (k := 1) kd_1 5 (v := .int (σ 1 5)) rfl rfl (by decide) k_170 rfl dX10_needUpTo_31 ?_
  obtain ⟨r34, e34, h⟩ := bnd h
  refine afI X (runV C G X q_X6_get k_498 k_499 k_815 (rcX6 G X kd_5) (c_X6_get l E kd_5 e34) rfl hl.1 rfl (Nat.le_of_ble_eq_true rfl) ⟨Nat.le_of_ble_eq_true rfl, Nat.le_of_ble_eq_true rfl⟩ ⟨Nat.le_of_ble_eq_true rfl, Nat.le_of_ble_eq_true rfl⟩ dX10_needUpTo_34) (fun H locs X => ?_)
  obtain ⟨σ37, e37, h⟩ := bnd h
  refine pfX10 C G X (k := 1) kd_1 6 (x := r34) (ty := .int) rfl rfl (Nat.le_of_ble_eq_true rfl) (by decide) k_171 rfl rfl (by decide +kernel) rfl rfl dX10_needUpTo_37 (fun H locs X => ?_)
  replace X := pu_x e37 X
  refine lv_iconst (v := -1) C.1 C.2.1 dX10_needUpTo_40 (by decide) ?_
  rw [← Option.some.inj h]
  exact rtI C X dX10_needUpTo_41

set_option maxRecDepth 20000 in
theorem w_X10_needUpTo {r : (Int32 × Mem)} {σ : Mem} {x1 : Int32} {ls : Array Slot} {H : Heap} {locs : List Loc} (C : Cx p s m args meth c cX10_needUpTo (some .int) 2 RX10) (G : Gf E s) (X : Hx E σ s H locs) (hl : lv_has ls 2 [(0, .ref (gB E + 1)), (1, .int x1)]) (h : X10_needUpTo x1 σ = some r) : W p l e (RM 2) s m args below meth c H locs 0 0 (QI E below args s r.1 r.2) (F0 m 0 ls []) := by
  rw [X10_needUpTo] at h
  refine lv_aload_n C.1 C.2.1 dX10_needUpTo_0 rfl (lv_at hl 0 rfl) ?_
  obtain ⟨r1, e1, h⟩ := bnd h
  refine afQ X (runV C G X q_X10_term k_904 k_905 k_903 (rcX10 G X kd_1) (c_X10_term l E e1) rfl hl.1 rfl (Nat.le_of_ble_eq_true rfl) ⟨Nat.le_of_ble_eq_true rfl, Nat.le_of_ble_eq_true rfl⟩ ⟨Nat.le_of_ble_eq_true rfl, Nat.le_of_ble_eq_true rfl⟩ dX10_needUpTo_1) (fun H locs X => ?_)
  refine gsT C G X (i := 2) (x := 3) (by decide) (by decide) (nm := "NUMBER") rfl k_830 dX10_needUpTo_4 ?_
  obtain ⟨u7, z7, h⟩ := bnd h
  refine ac_ne (tgt := 25) C G z7 dX10_needUpTo_7 (by decide) (fun c7 => ?_) (fun c7 => ?_)
  · replace h := ineg c7 h
    exact w_X10_needUpTo_25 C G X (lv_sub hl [0] rfl) h
  · replace h := ipos c7 h
    refine lv_aload_n C.1 C.2.1 dX10_needUpTo_10 rfl (lv_at hl 0 rfl) ?_
    refine gfX10 C G X (k := 1) kd_1 4 (v := .ref (gB E + 7)) rfl rfl (by decide) k_169 rfl dX10_needUpTo_11 ?_
    refine lv_aload_n C.1 C.2.1 dX10_needUpTo_14 rfl (lv_at hl 0 rfl) ?_
    refine gfX10 C G X (k := 1) kd_1 5 (v := .int (σ 1 5)) rfl rfl (by decide) k_170 rfl dX10_needUpTo_15 ?_
    obtain ⟨r18, e18, h⟩ := bnd h
    refine afI X (runV C G X q_X6_get k_498 k_499 k_815 (rcX6 G X kd_7) (c_X6_get l E kd_7 e18) rfl hl.1 rfl (Nat.le_of_ble_eq_true rfl) ⟨Nat.le_of_ble_eq_true rfl, Nat.le_of_ble_eq_true rfl⟩ ⟨Nat.le_of_ble_eq_true rfl, Nat.le_of_ble_eq_true rfl⟩ dX10_needUpTo_18) (fun H locs X => ?_)
    refine lv_iload_n C.1 C.2.1 dX10_needUpTo_21 rfl (lv_at hl 1 rfl) ?_
    refine lv_icmp_le (tgt := 42) C.1 C.2.1 dX10_needUpTo_22 (by decide) (fun c22 => ?_) (fun c22 => ?_)
    · replace h := ipos c22 h
      refine lv_aload_n C.1 C.2.1 dX10_needUpTo_42 rfl (lv_at hl 0 rfl) ?_
      refine lv_dup C.1 C.2.1 dX10_needUpTo_43 rfl ?_
      refine gfX10 C G X (k := 1) kd_1 5 (v := .int (σ 1 5)) rfl rfl (by decide) k_170 rfl dX10_needUpTo_44 ?_
      refine lv_iconst (v := 1) C.1 C.2.1 dX10_needUpTo_47 (by decide) ?_
      refine lv_iadd C.1 C.2.1 dX10_needUpTo_48 ?_
      obtain ⟨σ49, e49, h⟩ := bnd h
      refine pfX10 C G X (k := 1) kd_1 5 (x := ((σ 1 5) + (1 : Int32))) (ty := .int) rfl rfl (Nat.le_of_ble_eq_true rfl) (by decide) k_170 rfl rfl (by decide +kernel) rfl rfl dX10_needUpTo_49 (fun H locs X => ?_)
      replace X := pu_x e49 X
      refine lv_aload_n C.1 C.2.1 dX10_needUpTo_52 rfl (lv_at hl 0 rfl) ?_
      refine gfX10 C G X (k := 1) kd_1 4 (v := .ref (gB E + 7)) rfl rfl (by decide) k_169 rfl dX10_needUpTo_53 ?_
      refine lv_aload_n C.1 C.2.1 dX10_needUpTo_56 rfl (lv_at hl 0 rfl) ?_
      refine gfX10 C G X (k := 1) kd_1 5 (v := .int (σ49 1 5)) rfl rfl (by decide) k_170 rfl dX10_needUpTo_57 ?_
      refine lv_iconst (v := 1) C.1 C.2.1 dX10_needUpTo_60 (by decide) ?_
      refine lv_isub C.1 C.2.1 dX10_needUpTo_61 ?_
      obtain ⟨r62, e62, h⟩ := bnd h
      refine afI X (runV C G X q_X6_get k_498 k_499 k_815 (rcX6 G X kd_7) (c_X6_get l E kd_7 e62) rfl hl.1 rfl (Nat.le_of_ble_eq_true rfl) ⟨Nat.le_of_ble_eq_true rfl, Nat.le_of_ble_eq_true rfl⟩ ⟨Nat.le_of_ble_eq_true rfl, Nat.le_of_ble_eq_true rfl⟩ dX10_needUpTo_62) (fun H locs X => ?_)
      rw [← Option.some.inj h]
      exact rtI C X dX10_needUpTo_65
    · replace h := ineg c22 h
      exact w_X10_needUpTo_25 C G X (lv_sub hl [0] rfl) h

theorem c_X10_needUpTo (l : Launch) (E : GE) {σ : Mem} {x1 : Int32} {r : (Int32 × Mem)} (h : X10_needUpTo x1 σ = some r) : CtI l E yX10_needUpTo cX10_needUpTo 2 .int 2 [.ref (gB E + 1), .int x1] σ r.1 r.2 := by
  refine Met.ofW (cc := cX10_needUpTo) (maxL := 2) (ret := (some .int)) (by decide) rfl ?_
  intro p e s m args below meth c s₁ B hml hv
  obtain ⟨rfl, G, X⟩ := start hv
  have C := cxof B hml
  have hl := lv_entry [.ref (gB E + 1), .int x1] (n := 2) (Nat.le_of_ble_eq_true rfl)
  rw [lg_entry_eq]
  generalize (lg_sl [.ref (gB E + 1), .int x1] ++ List.replicate (2 - (lg_sl [.ref (gB E + 1), .int x1]).length) Slot.unset).toArray = ls at hl ⊢
  exact w_X10_needUpTo C G X hl h

set_option maxRecDepth 20000 in
theorem w_X11_bit {r : Int32} {σ : Mem} {x0 : Int32} {ls : Array Slot} {H : Heap} {locs : List Loc} (C : Cx p s m args meth c cX11_bit (some .int) 1 RX11) (G : Gf E s) (X : Hx E σ s H locs) (hl : lv_has ls 1 [(0, .int x0)]) (h : X11_bit σ x0 = some r) : W p l e (RM 1) s m args below meth c H locs 0 0 (QI E below args s r σ) (F0 m 0 ls []) := by
  rw [X11_bit] at h
  refine lv_iconst (v := 1) C.1 C.2.1 dX11_bit_0 (by decide) ?_
  refine lv_iload_n C.1 C.2.1 dX11_bit_1 rfl (lv_at hl 0 rfl) ?_
  refine lv_ishl C.1 C.2.1 dX11_bit_2 ?_
  rw [← Option.some.inj h]
  exact rtI C X dX11_bit_3

theorem c_X11_bit (l : Launch) (E : GE) {σ : Mem} {x0 : Int32} {r : Int32} (h : X11_bit σ x0 = some r) : CtI l E yX11_bit cX11_bit 1 .int 1 [.int x0] σ r σ := by
  refine Met.ofW (cc := cX11_bit) (maxL := 1) (ret := (some .int)) (by decide) rfl ?_
  intro p e s m args below meth c s₁ B hml hv
  obtain ⟨rfl, G, X⟩ := start hv
  have C := cxof B hml
  have hl := lv_entry [.int x0] (n := 1) (Nat.le_of_ble_eq_true rfl)
  rw [lg_entry_eq]
  generalize (lg_sl [.int x0] ++ List.replicate (1 - (lg_sl [.int x0]).length) Slot.unset).toArray = ls at hl ⊢
  exact w_X11_bit C G X hl h

set_option maxRecDepth 20000 in
theorem w_X7_addPane {r : Mem} {σ : Mem} {a0 : Nat} {x1 : Int32} {x2 : Int32} {ls : Array Slot} {H : Heap} {locs : List Loc} (C : Cx p s m args meth c cX7_addPane none 4 RX7) (G : Gf E s) (X : Hx E σ s H locs) (hk_a0 : kd a0 = 2) (hl : lv_has ls 4 [(0, .ref (gB E + a0)), (1, .int x1), (2, .int x2)]) (h : X7_addPane a0 x1 x2 σ = some r) : W p l e (RM 2) s m args below meth c H locs 0 0 (QV E below args s r) (F0 m 0 ls []) := by
  rw [X7_addPane] at h
  refine lv_aload_n C.1 C.2.1 dX7_addPane_0 rfl (lv_at hl 0 rfl) ?_
  refine gfX7 C G X (k := a0) hk_a0 0 (v := .int (σ a0 0)) rfl rfl (by decide) k_198 rfl dX7_addPane_1 ?_
  refine lv_istore_n (lv' := [(3, .int (σ a0 0)), (0, .ref (gB E + a0)), (1, .int x1), (2, .int x2)]) C.1 C.2.1 dX7_addPane_4 rfl hl (by decide) rfl (fun ls hl => ?_)
  refine lv_aload_n C.1 C.2.1 dX7_addPane_5 rfl (lv_at hl 1 rfl) ?_
  refine lv_dup C.1 C.2.1 dX7_addPane_6 rfl ?_
  refine gfX7 C G X (k := a0) hk_a0 0 (v := .int (σ a0 0)) rfl rfl (by decide) k_198 rfl dX7_addPane_7 ?_
  refine lv_iconst (v := 1) C.1 C.2.1 dX7_addPane_10 (by decide) ?_
  refine lv_iadd C.1 C.2.1 dX7_addPane_11 ?_
  obtain ⟨σ12, e12, h⟩ := bnd h
  refine pfX7 C G X (k := a0) hk_a0 0 (x := ((σ a0 0) + (1 : Int32))) (ty := .int) rfl rfl (Nat.le_of_ble_eq_true rfl) (by decide) k_198 rfl rfl (by decide +kernel) rfl rfl dX7_addPane_12 (fun H locs X => ?_)
  replace X := pu_x e12 X
  refine lv_aload_n C.1 C.2.1 dX7_addPane_15 rfl (lv_at hl 1 rfl) ?_
  refine gfX7 C G X (k := a0) hk_a0 9 (v := .ref (gB E + (a0 + 1))) rfl rfl (by decide) k_232 rfl dX7_addPane_16 ?_
  refine lv_iload_n C.1 C.2.1 dX7_addPane_19 rfl (lv_at hl 0 rfl) ?_
  refine lv_iload_n C.1 C.2.1 dX7_addPane_20 rfl (lv_at hl 2 rfl) ?_
  obtain ⟨σ21, e21, h⟩ := bnd h
  refine afV X (runV C G X q_X6_set k_451 k_452 k_582 (rcX6 G X (kf_2_1 hk_a0)) (c_X6_set l E (kf_2_1 hk_a0) e21) rfl hl.1 rfl (Nat.le_of_ble_eq_true rfl) ⟨Nat.le_of_ble_eq_true rfl, Nat.le_of_ble_eq_true rfl⟩ ⟨Nat.le_of_ble_eq_true rfl, Nat.le_of_ble_eq_true rfl⟩ dX7_addPane_21) (fun H locs X => ?_)
  refine lv_aload_n C.1 C.2.1 dX7_addPane_24 rfl (lv_at hl 1 rfl) ?_
  refine gfX7 C G X (k := a0) hk_a0 10 (v := .ref (gB E + (a0 + 3))) rfl rfl (by decide) k_235 rfl dX7_addPane_25 ?_
  refine lv_iload_n C.1 C.2.1 dX7_addPane_28 rfl (lv_at hl 0 rfl) ?_
  refine lv_iconst (v := -1) C.1 C.2.1 dX7_addPane_29 (by decide) ?_
  obtain ⟨σ30, e30, h⟩ := bnd h
  refine afV X (runV C G X q_X6_set k_451 k_452 k_582 (rcX6 G X (kf_2_3 hk_a0)) (c_X6_set l E (kf_2_3 hk_a0) e30) rfl hl.1 rfl (Nat.le_of_ble_eq_true rfl) ⟨Nat.le_of_ble_eq_true rfl, Nat.le_of_ble_eq_true rfl⟩ ⟨Nat.le_of_ble_eq_true rfl, Nat.le_of_ble_eq_true rfl⟩ dX7_addPane_30) (fun H locs X => ?_)
  refine lv_aload_n C.1 C.2.1 dX7_addPane_33 rfl (lv_at hl 1 rfl) ?_
  refine gfX7 C G X (k := a0) hk_a0 11 (v := .ref (gB E + (a0 + 5))) rfl rfl (by decide) k_241 rfl dX7_addPane_34 ?_
  refine lv_iload_n C.1 C.2.1 dX7_addPane_37 rfl (lv_at hl 0 rfl) ?_
  refine lv_iconst (v := 0) C.1 C.2.1 dX7_addPane_38 (by decide) ?_
  obtain ⟨σ39, e39, h⟩ := bnd h
  refine afV X (runV C G X q_X6_set k_451 k_452 k_582 (rcX6 G X (kf_2_5 hk_a0)) (c_X6_set l E (kf_2_5 hk_a0) e39) rfl hl.1 rfl (Nat.le_of_ble_eq_true rfl) ⟨Nat.le_of_ble_eq_true rfl, Nat.le_of_ble_eq_true rfl⟩ ⟨Nat.le_of_ble_eq_true rfl, Nat.le_of_ble_eq_true rfl⟩ dX7_addPane_39) (fun H locs X => ?_)
  refine lv_aload_n C.1 C.2.1 dX7_addPane_42 rfl (lv_at hl 1 rfl) ?_
  refine gfX7 C G X (k := a0) hk_a0 12 (v := .ref (gB E + (a0 + 7))) rfl rfl (by decide) k_245 rfl dX7_addPane_43 ?_
  refine lv_iload_n C.1 C.2.1 dX7_addPane_46 rfl (lv_at hl 0 rfl) ?_
  refine lv_iconst (v := 0) C.1 C.2.1 dX7_addPane_47 (by decide) ?_
  obtain ⟨σ48, e48, h⟩ := bnd h
  refine afV X (runV C G X q_X6_set k_451 k_452 k_582 (rcX6 G X (kf_2_7 hk_a0)) (c_X6_set l E (kf_2_7 hk_a0) e48) rfl hl.1 rfl (Nat.le_of_ble_eq_true rfl) ⟨Nat.le_of_ble_eq_true rfl, Nat.le_of_ble_eq_true rfl⟩ ⟨Nat.le_of_ble_eq_true rfl, Nat.le_of_ble_eq_true rfl⟩ dX7_addPane_48) (fun H locs X => ?_)
  refine lv_iload_n C.1 C.2.1 dX7_addPane_51 rfl (lv_at hl 3 rfl) ?_
  refine lv_if_eq (tgt := 68) C.1 C.2.1 dX7_addPane_52 (by decide) (fun c52 => ?_) (fun c52 => ?_)
  · replace h := ipos c52 h
    rw [← Option.some.inj h]
    exact rtV C X dX7_addPane_68
  · replace h := ineg c52 h
    refine lv_aload_n C.1 C.2.1 dX7_addPane_55 rfl (lv_at hl 1 rfl) ?_
    refine lv_dup C.1 C.2.1 dX7_addPane_56 rfl ?_
    refine gfX7 C G X (k := a0) hk_a0 8 (v := .int (σ48 a0 8)) rfl rfl (by decide) k_229 rfl dX7_addPane_57 ?_
    refine lv_iload_n C.1 C.2.1 dX7_addPane_60 rfl (lv_at hl 0 rfl) ?_
    obtain ⟨r61, e61, h⟩ := bnd h
    refine afI X (runN C G X q_X11_bit k_506 nw_8 (c_X11_bit l E e61) rfl hl.1 rfl (Nat.le_of_ble_eq_true rfl) ⟨Nat.le_of_ble_eq_true rfl, Nat.le_of_ble_eq_true rfl⟩ ⟨Nat.le_of_ble_eq_true rfl, Nat.le_of_ble_eq_true rfl⟩ dX7_addPane_61) (fun H locs X => ?_)
    refine lv_ior C.1 C.2.1 dX7_addPane_64 ?_
    obtain ⟨σ65, e65, h⟩ := bnd h
    refine pfX7 C G X (k := a0) hk_a0 8 (x := ((σ48 a0 8) ||| r61)) (ty := .int) rfl rfl (Nat.le_of_ble_eq_true rfl) (by decide) k_229 rfl rfl (by decide +kernel) rfl rfl dX7_addPane_65 (fun H locs X => ?_)
    replace X := pu_x e65 X
    rw [← Option.some.inj h]
    exact rtV C X dX7_addPane_68

theorem c_X7_addPane (l : Launch) (E : GE) {σ : Mem} {a0 : Nat} {x1 : Int32} {x2 : Int32} (hk_a0 : kd a0 = 2) {r : Mem} (h : X7_addPane a0 x1 x2 σ = some r) : CtV l E yX7_addPane cX7_addPane 4 2 [.ref (gB E + a0), .int x1, .int x2] σ r := by
  refine Met.ofW (cc := cX7_addPane) (maxL := 4) (ret := none) (by decide) rfl ?_
  intro p e s m args below meth c s₁ B hml hv
  obtain ⟨rfl, G, X⟩ := start hv
  have C := cxof B hml
  have hl := lv_entry [.ref (gB E + a0), .int x1, .int x2] (n := 4) (Nat.le_of_ble_eq_true rfl)
  rw [lg_entry_eq]
  generalize (lg_sl [.ref (gB E + a0), .int x1, .int x2] ++ List.replicate (4 - (lg_sl [.ref (gB E + a0), .int x1, .int x2]).length) Slot.unset).toArray = ls at hl ⊢
  exact w_X7_addPane C G X hk_a0 hl h

set_option maxRecDepth 20000 in
theorem w_X8_readPane_45 {r : (Int32 × Mem)} {σ : Mem} {a1 : Nat} {x2 : Int32} {y0 : Int32} {ls : Array Slot} {H : Heap} {locs : List Loc} (C : Cx p s m args meth c cX8_readPane (some .boolean) 4 RX8) (G : Gf E s) (X : Hx E σ s H locs) (hk_a1 : kd a1 = 2) (hl : lv_has ls 4 [(1, .ref (gB E + a1)), (2, .int x2)]) (h : X8_readPane_45 a1 x2 y0 σ = some r) : W p l e (RM 3) s m args below meth c H locs 0 0 (QI E below args s r.1 r.2) (F0 m 45 ls [.int y0]) := by
  rw [X8_readPane_45] at h
  refine lv_istore_n (lv' := [(3, .int y0), (1, .ref (gB E + a1)), (2, .int x2)]) C.1 C.2.1 dX8_readPane_45 rfl hl (by decide) rfl (fun ls hl => ?_)
  refine lv_aload_n C.1 C.2.1 dX8_readPane_46 rfl (lv_at hl 1 rfl) ?_
  refine lv_iload_n C.1 C.2.1 dX8_readPane_47 rfl (lv_at hl 2 rfl) ?_
  refine lv_iload_n C.1 C.2.1 dX8_readPane_48 rfl (lv_at hl 0 rfl) ?_
  obtain ⟨σ49, e49, h⟩ := bnd h
  refine afV X (runV C G X q_X7_addPane k_937 k_938 k_936 (rcX7 G X hk_a1) (c_X7_addPane l E hk_a1 e49) rfl hl.1 rfl (Nat.le_of_ble_eq_true rfl) ⟨Nat.le_of_ble_eq_true rfl, Nat.le_of_ble_eq_true rfl⟩ ⟨Nat.le_of_ble_eq_true rfl, Nat.le_of_ble_eq_true rfl⟩ dX8_readPane_49) (fun H locs X => ?_)
  refine lv_iconst (v := 1) C.1 C.2.1 dX8_readPane_52 (by decide) ?_
  obtain ⟨u53, z53, h⟩ := bnd h
  rw [← Option.some.inj h]
  exact rtZ C X (gb_s z53) dX8_readPane_53

set_option maxRecDepth 20000 in
theorem w_X8_readPane_44 {r : (Int32 × Mem)} {σ : Mem} {a1 : Nat} {x2 : Int32} {ls : Array Slot} {H : Heap} {locs : List Loc} (C : Cx p s m args meth c cX8_readPane (some .boolean) 4 RX8) (G : Gf E s) (X : Hx E σ s H locs) (hk_a1 : kd a1 = 2) (hl : lv_has ls 4 [(1, .ref (gB E + a1)), (2, .int x2)]) (h : X8_readPane_44 a1 x2 σ = some r) : W p l e (RM 3) s m args below meth c H locs 0 0 (QI E below args s r.1 r.2) (F0 m 44 ls []) := by
  rw [X8_readPane_44] at h
  refine lv_iconst (v := 0) C.1 C.2.1 dX8_readPane_44 (by decide) ?_
  exact w_X8_readPane_45 C G X hk_a1 (lv_sub hl [0, 1] rfl) h

set_option maxRecDepth 20000 in
theorem w_X8_readPane_26 {r : (Int32 × Mem)} {σ : Mem} {a1 : Nat} {x2 : Int32} {ls : Array Slot} {H : Heap} {locs : List Loc} (C : Cx p s m args meth c cX8_readPane (some .boolean) 4 RX8) (G : Gf E s) (X : Hx E σ s H locs) (hk_a1 : kd a1 = 2) (hl : lv_has ls 4 [(0, .ref (gB E + 1)), (1, .ref (gB E + a1)), (2, .int x2)]) (h : X8_readPane_26 a1 x2 σ = some r) : W p l e (RM 3) s m args below meth c H locs 0 0 (QI E below args s r.1 r.2) (F0 m 26 ls []) := by
  rw [X8_readPane_26] at h
  refine lv_iload_n C.1 C.2.1 dX8_readPane_26 rfl (lv_at hl 2 rfl) ?_
  refine lv_if_le (tgt := 44) C.1 C.2.1 dX8_readPane_27 (by decide) (fun c27 => ?_) (fun c27 => ?_)
  · replace h := ipos c27 h
    exact w_X8_readPane_44 C G X hk_a1 (lv_sub hl [1, 2] rfl) h
  · replace h := ineg c27 h
    refine lv_aload_n C.1 C.2.1 dX8_readPane_30 rfl (lv_at hl 0 rfl) ?_
    refine gsT C G X (i := 18) (x := 19) (by decide) (by decide) (nm := "LIT") rfl k_934 dX8_readPane_31 ?_
    obtain ⟨r34, σ34, e34, h⟩ := bnd2 h
    refine afI (r0 := r34) (σ' := σ34) X (runV C G X q_X10_take k_914 k_915 k_925 (rcX10 G X kd_1) (c_X10_take l E e34) rfl hl.1 rfl (Nat.le_of_ble_eq_true rfl) ⟨Nat.le_of_ble_eq_true rfl, Nat.le_of_ble_eq_true rfl⟩ ⟨Nat.le_of_ble_eq_true rfl, Nat.le_of_ble_eq_true rfl⟩ dX8_readPane_34) (fun H locs X => ?_)
    refine lv_if_eq (tgt := 44) C.1 C.2.1 dX8_readPane_37 (by decide) (fun c37 => ?_) (fun c37 => ?_)
    · replace h := ipos c37 h
      exact w_X8_readPane_44 C G X hk_a1 (lv_sub hl [1, 2] rfl) h
    · replace h := ineg c37 h
      refine lv_iconst (v := 1) C.1 C.2.1 dX8_readPane_40 (by decide) ?_
      refine lv_goto (tgt := 45) C.1 C.2.1 dX8_readPane_41 (by decide) ?_
      exact w_X8_readPane_45 C G X hk_a1 (lv_sub hl [1, 2] rfl) h

set_option maxRecDepth 20000 in
theorem w_X8_readPane {r : (Int32 × Mem)} {σ : Mem} {a1 : Nat} {ls : Array Slot} {H : Heap} {locs : List Loc} (C : Cx p s m args meth c cX8_readPane (some .boolean) 4 RX8) (G : Gf E s) (X : Hx E σ s H locs) (hk_a1 : kd a1 = 2) (hl : lv_has ls 4 [(0, .ref (gB E + 1)), (1, .ref (gB E + a1))]) (h : X8_readPane a1 σ = some r) : W p l e (RM 3) s m args below meth c H locs 0 0 (QI E below args s r.1 r.2) (F0 m 0 ls []) := by
  rw [X8_readPane] at h
  refine lv_bipush (v := 20) C.1 C.2.1 dX8_readPane_0 (by decide) ?_
  refine lv_istore_n (lv' := [(2, .int (20 : Int32)), (0, .ref (gB E + 1)), (1, .ref (gB E + a1))]) C.1 C.2.1 dX8_readPane_2 rfl hl (by decide) rfl (fun ls hl => ?_)
  refine lv_aload_n C.1 C.2.1 dX8_readPane_3 rfl (lv_at hl 1 rfl) ?_
  refine gsT C G X (i := 11) (x := 12) (by decide) (by decide) (nm := "OIL") rfl k_929 dX8_readPane_4 ?_
  obtain ⟨r7, σ7, e7, h⟩ := bnd2 h
  refine afI (r0 := r7) (σ' := σ7) X (runV C G X q_X10_take k_914 k_915 k_925 (rcX10 G X kd_1) (c_X10_take l E e7) rfl hl.1 rfl (Nat.le_of_ble_eq_true rfl) ⟨Nat.le_of_ble_eq_true rfl, Nat.le_of_ble_eq_true rfl⟩ ⟨Nat.le_of_ble_eq_true rfl, Nat.le_of_ble_eq_true rfl⟩ dX8_readPane_7) (fun H locs X => ?_)
  refine lv_if_eq (tgt := 26) C.1 C.2.1 dX8_readPane_10 (by decide) (fun c10 => ?_) (fun c10 => ?_)
  · replace h := ipos c10 h
    exact w_X8_readPane_26 C G X hk_a1 (lv_sub hl [1, 2, 0] rfl) h
  · replace h := ineg c10 h
    refine lv_aload_n C.1 C.2.1 dX8_readPane_13 rfl (lv_at hl 1 rfl) ?_
    refine lv_bipush (v := 99) C.1 C.2.1 dX8_readPane_14 (by decide) ?_
    obtain ⟨r16, σ16, e16, h⟩ := bnd2 h
    refine afI (r0 := r16) (σ' := σ16) X (runV C G X q_X10_needUpTo k_931 k_932 k_930 (rcX10 G X kd_1) (c_X10_needUpTo l E e16) rfl hl.1 rfl (Nat.le_of_ble_eq_true rfl) ⟨Nat.le_of_ble_eq_true rfl, Nat.le_of_ble_eq_true rfl⟩ ⟨Nat.le_of_ble_eq_true rfl, Nat.le_of_ble_eq_true rfl⟩ dX8_readPane_16) (fun H locs X => ?_)
    refine lv_istore_n (lv' := [(2, .int r16), (0, .ref (gB E + 1)), (1, .ref (gB E + a1))]) C.1 C.2.1 dX8_readPane_19 rfl hl (by decide) rfl (fun ls hl => ?_)
    refine lv_iload_n C.1 C.2.1 dX8_readPane_20 rfl (lv_at hl 0 rfl) ?_
    refine lv_if_ge (tgt := 26) C.1 C.2.1 dX8_readPane_21 (by decide) (fun c21 => ?_) (fun c21 => ?_)
    · replace h := ipos c21 h
      exact w_X8_readPane_26 C G X hk_a1 (lv_sub hl [1, 2, 0] rfl) h
    · replace h := ineg c21 h
      refine lv_iconst (v := 0) C.1 C.2.1 dX8_readPane_24 (by decide) ?_
      obtain ⟨u25, z25, h⟩ := bnd h
      rw [← Option.some.inj h]
      exact rtZ C X (gb_s z25) dX8_readPane_25

theorem c_X8_readPane (l : Launch) (E : GE) {σ : Mem} {a1 : Nat} (hk_a1 : kd a1 = 2) {r : (Int32 × Mem)} (h : X8_readPane a1 σ = some r) : CtI l E yX8_readPane cX8_readPane 4 .boolean 3 [.ref (gB E + 1), .ref (gB E + a1)] σ r.1 r.2 := by
  refine Met.ofW (cc := cX8_readPane) (maxL := 4) (ret := (some .boolean)) (by decide) rfl ?_
  intro p e s m args below meth c s₁ B hml hv
  obtain ⟨rfl, G, X⟩ := start hv
  have C := cxof B hml
  have hl := lv_entry [.ref (gB E + 1), .ref (gB E + a1)] (n := 4) (Nat.le_of_ble_eq_true rfl)
  rw [lg_entry_eq]
  generalize (lg_sl [.ref (gB E + 1), .ref (gB E + a1)] ++ List.replicate (4 - (lg_sl [.ref (gB E + 1), .ref (gB E + a1)]).length) Slot.unset).toArray = ls at hl ⊢
  exact w_X8_readPane C G X hk_a1 hl h

set_option maxRecDepth 20000 in
theorem w_X10_wrongBefore {r : (Int32 × Mem)} {σ : Mem} {ls : Array Slot} {H : Heap} {locs : List Loc} (C : Cx p s m args meth c cX10_wrongBefore (some .boolean) 1 RX10) (G : Gf E s) (X : Hx E σ s H locs) (hl : lv_has ls 1 [(0, .ref (gB E + 1))]) (h : X10_wrongBefore σ = some r) : W p l e (RM 2) s m args below meth c H locs 0 0 (QI E below args s r.1 r.2) (F0 m 0 ls []) := by
  rw [X10_wrongBefore] at h
  refine lv_aload_n C.1 C.2.1 dX10_wrongBefore_0 rfl (lv_at hl 0 rfl) ?_
  refine lv_aload_n C.1 C.2.1 dX10_wrongBefore_1 rfl (lv_at hl 0 rfl) ?_
  refine gfX10 C G X (k := 1) kd_1 3 (v := .ref (gB E + 5)) rfl rfl (by decide) k_168 rfl dX10_wrongBefore_2 ?_
  refine lv_aload_n C.1 C.2.1 dX10_wrongBefore_5 rfl (lv_at hl 0 rfl) ?_
  refine gfX10 C G X (k := 1) kd_1 5 (v := .int (σ 1 5)) rfl rfl (by decide) k_170 rfl dX10_wrongBefore_6 ?_
  refine lv_iconst (v := 1) C.1 C.2.1 dX10_wrongBefore_9 (by decide) ?_
  refine lv_isub C.1 C.2.1 dX10_wrongBefore_10 ?_
  obtain ⟨r11, e11, h⟩ := bnd h
  refine afI X (runV C G X q_X6_get k_498 k_499 k_815 (rcX6 G X kd_5) (c_X6_get l E kd_5 e11) rfl hl.1 rfl (Nat.le_of_ble_eq_true rfl) ⟨Nat.le_of_ble_eq_true rfl, Nat.le_of_ble_eq_true rfl⟩ ⟨Nat.le_of_ble_eq_true rfl, Nat.le_of_ble_eq_true rfl⟩ dX10_wrongBefore_11) (fun H locs X => ?_)
  obtain ⟨σ14, e14, h⟩ := bnd h
  refine pfX10 C G X (k := 1) kd_1 6 (x := r11) (ty := .int) rfl rfl (Nat.le_of_ble_eq_true rfl) (by decide) k_171 rfl rfl (by decide +kernel) rfl rfl dX10_wrongBefore_14 (fun H locs X => ?_)
  replace X := pu_x e14 X
  refine lv_iconst (v := 0) C.1 C.2.1 dX10_wrongBefore_17 (by decide) ?_
  obtain ⟨u18, z18, h⟩ := bnd h
  rw [← Option.some.inj h]
  exact rtZ C X (gb_s z18) dX10_wrongBefore_18

theorem c_X10_wrongBefore (l : Launch) (E : GE) {σ : Mem} {r : (Int32 × Mem)} (h : X10_wrongBefore σ = some r) : CtI l E yX10_wrongBefore cX10_wrongBefore 1 .boolean 2 [.ref (gB E + 1)] σ r.1 r.2 := by
  refine Met.ofW (cc := cX10_wrongBefore) (maxL := 1) (ret := (some .boolean)) (by decide) rfl ?_
  intro p e s m args below meth c s₁ B hml hv
  obtain ⟨rfl, G, X⟩ := start hv
  have C := cxof B hml
  have hl := lv_entry [.ref (gB E + 1)] (n := 1) (Nat.le_of_ble_eq_true rfl)
  rw [lg_entry_eq]
  generalize (lg_sl [.ref (gB E + 1)] ++ List.replicate (1 - (lg_sl [.ref (gB E + 1)]).length) Slot.unset).toArray = ls at hl ⊢
  exact w_X10_wrongBefore C G X hl h

set_option maxRecDepth 20000 in
theorem w_X7_setLikes {r : Mem} {σ : Mem} {a0 : Nat} {x1 : Int32} {x2 : Int32} {x3 : Int32} {ls : Array Slot} {H : Heap} {locs : List Loc} (C : Cx p s m args meth c cX7_setLikes none 4 RX7) (G : Gf E s) (X : Hx E σ s H locs) (hk_a0 : kd a0 = 2) (hl : lv_has ls 4 [(0, .ref (gB E + a0)), (1, .int x1), (2, .int x2), (3, .int x3)]) (h : X7_setLikes a0 x1 x2 x3 σ = some r) : W p l e (RM 2) s m args below meth c H locs 0 0 (QV E below args s r) (F0 m 0 ls []) := by
  rw [X7_setLikes] at h
  refine lv_aload_n C.1 C.2.1 dX7_setLikes_0 rfl (lv_at hl 0 rfl) ?_
  refine gfX7 C G X (k := a0) hk_a0 17 (v := .ref (gB E + (a0 + 17))) rfl rfl (by decide) k_260 rfl dX7_setLikes_1 ?_
  refine lv_iload_n C.1 C.2.1 dX7_setLikes_4 rfl (lv_at hl 1 rfl) ?_
  refine lv_bipush (v := 6) C.1 C.2.1 dX7_setLikes_5 (by decide) ?_
  refine lv_imul C.1 C.2.1 dX7_setLikes_7 ?_
  refine lv_iload_n C.1 C.2.1 dX7_setLikes_8 rfl (lv_at hl 2 rfl) ?_
  refine lv_iadd C.1 C.2.1 dX7_setLikes_9 ?_
  refine lv_iload_n C.1 C.2.1 dX7_setLikes_10 rfl (lv_at hl 3 rfl) ?_
  obtain ⟨σ11, e11, h⟩ := bnd h
  refine afV X (runV C G X q_X6_set k_451 k_452 k_582 (rcX6 G X (kf_2_17 hk_a0)) (c_X6_set l E (kf_2_17 hk_a0) e11) rfl hl.1 rfl (Nat.le_of_ble_eq_true rfl) ⟨Nat.le_of_ble_eq_true rfl, Nat.le_of_ble_eq_true rfl⟩ ⟨Nat.le_of_ble_eq_true rfl, Nat.le_of_ble_eq_true rfl⟩ dX7_setLikes_11) (fun H locs X => ?_)
  rw [← Option.some.inj h]
  exact rtV C X dX7_setLikes_14

theorem c_X7_setLikes (l : Launch) (E : GE) {σ : Mem} {a0 : Nat} {x1 : Int32} {x2 : Int32} {x3 : Int32} (hk_a0 : kd a0 = 2) {r : Mem} (h : X7_setLikes a0 x1 x2 x3 σ = some r) : CtV l E yX7_setLikes cX7_setLikes 4 2 [.ref (gB E + a0), .int x1, .int x2, .int x3] σ r := by
  refine Met.ofW (cc := cX7_setLikes) (maxL := 4) (ret := none) (by decide) rfl ?_
  intro p e s m args below meth c s₁ B hml hv
  obtain ⟨rfl, G, X⟩ := start hv
  have C := cxof B hml
  have hl := lv_entry [.ref (gB E + a0), .int x1, .int x2, .int x3] (n := 4) (Nat.le_of_ble_eq_true rfl)
  rw [lg_entry_eq]
  generalize (lg_sl [.ref (gB E + a0), .int x1, .int x2, .int x3] ++ List.replicate (4 - (lg_sl [.ref (gB E + a0), .int x1, .int x2, .int x3]).length) Slot.unset).toArray = ls at hl ⊢
  exact w_X7_setLikes C G X hk_a0 hl h

set_option maxRecDepth 20000 in
theorem w_X7_addWalker_59 {r : Mem} (C : Cx p s m args meth c cX7_addWalker none 6 RX7) (G : Gf E s) : ∀ (f : Nat) {a0 : Nat} {x4 : Int32} {x5 : Int32} {σ : Mem} {ls : Array Slot} {H : Heap} {locs : List Loc}, Hx E σ s H locs → kd a0 = 2 → lv_has ls 6 [(0, .ref (gB E + a0)), (4, .int x4), (5, .int x5)] → X7_addWalker_59 f a0 x4 x5 σ = some r → W p l e (RM 3) s m args below meth c H locs 0 0 (QV E below args s r) (F0 m 59 ls []) := by
  intro f
  induction f with
  | zero =>
    intro a0 x4 x5 σ ls H locs X hk_a0 hl h
    rw [X7_addWalker_59] at h
    cases h
  | succ f ih =>
    intro a0 x4 x5 σ ls H locs X hk_a0 hl h
    rw [X7_addWalker_59] at h
    refine lv_iload C.1 C.2.1 dX7_addWalker_59 (lv_at hl 2 rfl) ?_
    refine lv_iload C.1 C.2.1 dX7_addWalker_61 (lv_at hl 1 rfl) ?_
    refine lv_icmp_ge (tgt := 90) C.1 C.2.1 dX7_addWalker_63 (by decide) (fun c63 => ?_) (fun c63 => ?_)
    · replace h := ipos c63 h
      rw [← Option.some.inj h]
      exact rtV C X dX7_addWalker_90
    · replace h := ineg c63 h
      refine lv_aload_n C.1 C.2.1 dX7_addWalker_66 rfl (lv_at hl 0 rfl) ?_
      refine lv_iload C.1 C.2.1 dX7_addWalker_67 (lv_at hl 1 rfl) ?_
      refine lv_iload C.1 C.2.1 dX7_addWalker_69 (lv_at hl 2 rfl) ?_
      refine lv_iconst (v := 5) C.1 C.2.1 dX7_addWalker_71 (by decide) ?_
      obtain ⟨σ72, e72, h⟩ := bnd h
      refine afV X (runV C G X q_X7_setLikes k_589 k_590 k_588 (rcX7 G X hk_a0) (c_X7_setLikes l E hk_a0 e72) rfl hl.1 rfl (Nat.le_of_ble_eq_true rfl) ⟨Nat.le_of_ble_eq_true rfl, Nat.le_of_ble_eq_true rfl⟩ ⟨Nat.le_of_ble_eq_true rfl, Nat.le_of_ble_eq_true rfl⟩ dX7_addWalker_72) (fun H locs X => ?_)
      refine lv_aload_n C.1 C.2.1 dX7_addWalker_75 rfl (lv_at hl 0 rfl) ?_
      refine lv_iload C.1 C.2.1 dX7_addWalker_76 (lv_at hl 2 rfl) ?_
      refine lv_iload C.1 C.2.1 dX7_addWalker_78 (lv_at hl 1 rfl) ?_
      refine lv_iconst (v := 5) C.1 C.2.1 dX7_addWalker_80 (by decide) ?_
      obtain ⟨σ81, e81, h⟩ := bnd h
      refine afV X (runV C G X q_X7_setLikes k_589 k_590 k_588 (rcX7 G X hk_a0) (c_X7_setLikes l E hk_a0 e81) rfl hl.1 rfl (Nat.le_of_ble_eq_true rfl) ⟨Nat.le_of_ble_eq_true rfl, Nat.le_of_ble_eq_true rfl⟩ ⟨Nat.le_of_ble_eq_true rfl, Nat.le_of_ble_eq_true rfl⟩ dX7_addWalker_81) (fun H locs X => ?_)
      refine lv_iinc (v := (x5 + 1)) (lv' := [(5, .int (x5 + 1)), (0, .ref (gB E + a0)), (4, .int x4)]) C.1 C.2.1 dX7_addWalker_84 hl (k := 2) rfl rfl (by decide) rfl (fun ls hl => ?_)
      refine lv_goto (tgt := 59) C.1 C.2.1 dX7_addWalker_87 (by decide) ?_
      exact ih X hk_a0 (lv_sub hl [1, 2, 0] rfl) h

set_option maxRecDepth 20000 in
theorem w_X7_addWalker {r : Mem} {σ : Mem} {a0 : Nat} {x1 : Int32} {x2 : Int32} {x3 : Int32} {ls : Array Slot} {H : Heap} {locs : List Loc} (C : Cx p s m args meth c cX7_addWalker none 6 RX7) (G : Gf E s) (X : Hx E σ s H locs) (hk_a0 : kd a0 = 2) (hl : lv_has ls 6 [(0, .ref (gB E + a0)), (1, .int x1), (2, .int x2), (3, .int x3)]) (h : X7_addWalker a0 x1 x2 x3 σ = some r) : W p l e (RM 3) s m args below meth c H locs 0 0 (QV E below args s r) (F0 m 0 ls []) := by
  rw [X7_addWalker] at h
  refine lv_aload_n C.1 C.2.1 dX7_addWalker_0 rfl (lv_at hl 0 rfl) ?_
  refine gfX7 C G X (k := a0) hk_a0 1 (v := .int (σ a0 1)) rfl rfl (by decide) k_205 rfl dX7_addWalker_1 ?_
  refine lv_istore (lv' := [(4, .int (σ a0 1)), (0, .ref (gB E + a0)), (1, .int x1), (2, .int x2), (3, .int x3)]) C.1 C.2.1 dX7_addWalker_4 hl (by decide) rfl (fun ls hl => ?_)
  refine lv_aload_n C.1 C.2.1 dX7_addWalker_6 rfl (lv_at hl 1 rfl) ?_
  refine lv_dup C.1 C.2.1 dX7_addWalker_7 rfl ?_
  refine gfX7 C G X (k := a0) hk_a0 1 (v := .int (σ a0 1)) rfl rfl (by decide) k_205 rfl dX7_addWalker_8 ?_
  refine lv_iconst (v := 1) C.1 C.2.1 dX7_addWalker_11 (by decide) ?_
  refine lv_iadd C.1 C.2.1 dX7_addWalker_12 ?_
  obtain ⟨σ13, e13, h⟩ := bnd h
  refine pfX7 C G X (k := a0) hk_a0 1 (x := ((σ a0 1) + (1 : Int32))) (ty := .int) rfl rfl (Nat.le_of_ble_eq_true rfl) (by decide) k_205 rfl rfl (by decide +kernel) rfl rfl dX7_addWalker_13 (fun H locs X => ?_)
  replace X := pu_x e13 X
  refine lv_aload_n C.1 C.2.1 dX7_addWalker_16 rfl (lv_at hl 1 rfl) ?_
  refine gfX7 C G X (k := a0) hk_a0 13 (v := .ref (gB E + (a0 + 9))) rfl rfl (by decide) k_247 rfl dX7_addWalker_17 ?_
  refine lv_iload C.1 C.2.1 dX7_addWalker_20 (lv_at hl 0 rfl) ?_
  refine lv_iload_n C.1 C.2.1 dX7_addWalker_22 rfl (lv_at hl 2 rfl) ?_
  obtain ⟨σ23, e23, h⟩ := bnd h
  refine afV X (runV C G X q_X6_set k_451 k_452 k_582 (rcX6 G X (kf_2_9 hk_a0)) (c_X6_set l E (kf_2_9 hk_a0) e23) rfl hl.1 rfl (Nat.le_of_ble_eq_true rfl) ⟨Nat.le_of_ble_eq_true rfl, Nat.le_of_ble_eq_true rfl⟩ ⟨Nat.le_of_ble_eq_true rfl, Nat.le_of_ble_eq_true rfl⟩ dX7_addWalker_23) (fun H locs X => ?_)
  refine lv_aload_n C.1 C.2.1 dX7_addWalker_26 rfl (lv_at hl 1 rfl) ?_
  refine gfX7 C G X (k := a0) hk_a0 14 (v := .ref (gB E + (a0 + 11))) rfl rfl (by decide) k_251 rfl dX7_addWalker_27 ?_
  refine lv_iload C.1 C.2.1 dX7_addWalker_30 (lv_at hl 0 rfl) ?_
  refine lv_iload_n C.1 C.2.1 dX7_addWalker_32 rfl (lv_at hl 3 rfl) ?_
  obtain ⟨σ33, e33, h⟩ := bnd h
  refine afV X (runV C G X q_X6_set k_451 k_452 k_582 (rcX6 G X (kf_2_11 hk_a0)) (c_X6_set l E (kf_2_11 hk_a0) e33) rfl hl.1 rfl (Nat.le_of_ble_eq_true rfl) ⟨Nat.le_of_ble_eq_true rfl, Nat.le_of_ble_eq_true rfl⟩ ⟨Nat.le_of_ble_eq_true rfl, Nat.le_of_ble_eq_true rfl⟩ dX7_addWalker_33) (fun H locs X => ?_)
  refine lv_aload_n C.1 C.2.1 dX7_addWalker_36 rfl (lv_at hl 1 rfl) ?_
  refine gfX7 C G X (k := a0) hk_a0 15 (v := .ref (gB E + (a0 + 13))) rfl rfl (by decide) k_255 rfl dX7_addWalker_37 ?_
  refine lv_iload C.1 C.2.1 dX7_addWalker_40 (lv_at hl 0 rfl) ?_
  refine lv_iload_n C.1 C.2.1 dX7_addWalker_42 rfl (lv_at hl 4 rfl) ?_
  obtain ⟨σ43, e43, h⟩ := bnd h
  refine afV X (runV C G X q_X6_set k_451 k_452 k_582 (rcX6 G X (kf_2_13 hk_a0)) (c_X6_set l E (kf_2_13 hk_a0) e43) rfl hl.1 rfl (Nat.le_of_ble_eq_true rfl) ⟨Nat.le_of_ble_eq_true rfl, Nat.le_of_ble_eq_true rfl⟩ ⟨Nat.le_of_ble_eq_true rfl, Nat.le_of_ble_eq_true rfl⟩ dX7_addWalker_43) (fun H locs X => ?_)
  refine lv_aload_n C.1 C.2.1 dX7_addWalker_46 rfl (lv_at hl 1 rfl) ?_
  refine gfX7 C G X (k := a0) hk_a0 16 (v := .ref (gB E + (a0 + 15))) rfl rfl (by decide) k_258 rfl dX7_addWalker_47 ?_
  refine lv_iload C.1 C.2.1 dX7_addWalker_50 (lv_at hl 0 rfl) ?_
  refine lv_iconst (v := 0) C.1 C.2.1 dX7_addWalker_52 (by decide) ?_
  obtain ⟨σ53, e53, h⟩ := bnd h
  refine afV X (runV C G X q_X6_set k_451 k_452 k_582 (rcX6 G X (kf_2_15 hk_a0)) (c_X6_set l E (kf_2_15 hk_a0) e53) rfl hl.1 rfl (Nat.le_of_ble_eq_true rfl) ⟨Nat.le_of_ble_eq_true rfl, Nat.le_of_ble_eq_true rfl⟩ ⟨Nat.le_of_ble_eq_true rfl, Nat.le_of_ble_eq_true rfl⟩ dX7_addWalker_53) (fun H locs X => ?_)
  refine lv_iconst (v := 0) C.1 C.2.1 dX7_addWalker_56 (by decide) ?_
  refine lv_istore (lv' := [(5, .int (0 : Int32)), (4, .int (σ a0 1)), (0, .ref (gB E + a0)), (1, .int x1), (2, .int x2), (3, .int x3)]) C.1 C.2.1 dX7_addWalker_57 hl (by decide) rfl (fun ls hl => ?_)
  exact w_X7_addWalker_59 C G FU X hk_a0 (lv_sub hl [2, 1, 0] rfl) h

theorem c_X7_addWalker (l : Launch) (E : GE) {σ : Mem} {a0 : Nat} {x1 : Int32} {x2 : Int32} {x3 : Int32} (hk_a0 : kd a0 = 2) {r : Mem} (h : X7_addWalker a0 x1 x2 x3 σ = some r) : CtV l E yX7_addWalker cX7_addWalker 6 3 [.ref (gB E + a0), .int x1, .int x2, .int x3] σ r := by
  refine Met.ofW (cc := cX7_addWalker) (maxL := 6) (ret := none) (by decide) rfl ?_
  intro p e s m args below meth c s₁ B hml hv
  obtain ⟨rfl, G, X⟩ := start hv
  have C := cxof B hml
  have hl := lv_entry [.ref (gB E + a0), .int x1, .int x2, .int x3] (n := 6) (Nat.le_of_ble_eq_true rfl)
  rw [lg_entry_eq]
  generalize (lg_sl [.ref (gB E + a0), .int x1, .int x2, .int x3] ++ List.replicate (6 - (lg_sl [.ref (gB E + a0), .int x1, .int x2, .int x3]).length) Slot.unset).toArray = ls at hl ⊢
  exact w_X7_addWalker C G X hk_a0 hl h

set_option maxRecDepth 20000 in
theorem w_X8_readWalker_156 {r : (Int32 × Mem)} {σ : Mem} {a1 : Nat} {x2 : Int32} {x3 : Int32} {x5 : Int32} {ls : Array Slot} {H : Heap} {locs : List Loc} (C : Cx p s m args meth c cX8_readWalker (some .boolean) 6 RX8) (G : Gf E s) (X : Hx E σ s H locs) (hk_a1 : kd a1 = 2) (hl : lv_has ls 6 [(1, .ref (gB E + a1)), (2, .int x2), (3, .int x3), (5, .int x5)]) (h : X8_readWalker_156 a1 x2 x3 x5 σ = some r) : W p l e (RM 4) s m args below meth c H locs 0 0 (QI E below args s r.1 r.2) (F0 m 156 ls []) := by
  rw [X8_readWalker_156] at h
  refine lv_aload_n C.1 C.2.1 dX8_readWalker_156 rfl (lv_at hl 0 rfl) ?_
  refine lv_iload_n C.1 C.2.1 dX8_readWalker_157 rfl (lv_at hl 1 rfl) ?_
  refine lv_iload_n C.1 C.2.1 dX8_readWalker_158 rfl (lv_at hl 2 rfl) ?_
  refine lv_iload C.1 C.2.1 dX8_readWalker_159 (lv_at hl 3 rfl) ?_
  obtain ⟨σ161, e161, h⟩ := bnd h
  refine afV X (runV C G X q_X7_addWalker k_959 k_960 k_958 (rcX7 G X hk_a1) (c_X7_addWalker l E hk_a1 e161) rfl hl.1 rfl (Nat.le_of_ble_eq_true rfl) ⟨Nat.le_of_ble_eq_true rfl, Nat.le_of_ble_eq_true rfl⟩ ⟨Nat.le_of_ble_eq_true rfl, Nat.le_of_ble_eq_true rfl⟩ dX8_readWalker_161) (fun H locs X => ?_)
  refine lv_iconst (v := 1) C.1 C.2.1 dX8_readWalker_164 (by decide) ?_
  obtain ⟨u165, z165, h⟩ := bnd h
  rw [← Option.some.inj h]
  exact rtZ C X (gb_s z165) dX8_readWalker_165

set_option maxRecDepth 20000 in
theorem w_X8_readWalker_138 {r : (Int32 × Mem)} {σ : Mem} {a1 : Nat} {x2 : Int32} {x3 : Int32} {x4 : Int32} {x5 : Int32} {ls : Array Slot} {H : Heap} {locs : List Loc} (C : Cx p s m args meth c cX8_readWalker (some .boolean) 6 RX8) (G : Gf E s) (X : Hx E σ s H locs) (hk_a1 : kd a1 = 2) (hl : lv_has ls 6 [(1, .ref (gB E + a1)), (2, .int x2), (3, .int x3), (4, .int x4), (5, .int x5)]) (h : X8_readWalker_138 a1 x2 x3 x4 x5 σ = some r) : W p l e (RM 4) s m args below meth c H locs 0 0 (QI E below args s r.1 r.2) (F0 m 138 ls []) := by
  rw [X8_readWalker_138] at h
  refine lv_iload C.1 C.2.1 dX8_readWalker_138 (lv_at hl 3 rfl) ?_
  refine lv_if_lt (tgt := 156) C.1 C.2.1 dX8_readWalker_140 (by decide) (fun c140 => ?_) (fun c140 => ?_)
  · replace h := ipos c140 h
    exact w_X8_readWalker_156 C G X hk_a1 (lv_sub hl [0, 1, 2, 4] rfl) h
  · replace h := ineg c140 h
    refine lv_aload_n C.1 C.2.1 dX8_readWalker_143 rfl (lv_at hl 0 rfl) ?_
    refine gfX7 C G X (k := a1) hk_a1 10 (v := .ref (gB E + (a1 + 3))) rfl rfl (by decide) k_237 rfl dX8_readWalker_144 ?_
    refine lv_iload C.1 C.2.1 dX8_readWalker_147 (lv_at hl 3 rfl) ?_
    refine lv_aload_n C.1 C.2.1 dX8_readWalker_149 rfl (lv_at hl 0 rfl) ?_
    refine gfX7 C G X (k := a1) hk_a1 1 (v := .int (σ a1 1)) rfl rfl (by decide) k_207 rfl dX8_readWalker_150 ?_
    obtain ⟨σ153, e153, h⟩ := bnd h
    refine afV X (runV C G X q_X6_set k_451 k_452 k_957 (rcX6 G X (kf_2_3 hk_a1)) (c_X6_set l E (kf_2_3 hk_a1) e153) rfl hl.1 rfl (Nat.le_of_ble_eq_true rfl) ⟨Nat.le_of_ble_eq_true rfl, Nat.le_of_ble_eq_true rfl⟩ ⟨Nat.le_of_ble_eq_true rfl, Nat.le_of_ble_eq_true rfl⟩ dX8_readWalker_153) (fun H locs X => ?_)
    exact w_X8_readWalker_156 C G X hk_a1 (lv_sub hl [0, 1, 2, 4] rfl) h

set_option maxRecDepth 20000 in
theorem w_X8_readWalker_106 {r : (Int32 × Mem)} {σ : Mem} {a1 : Nat} {x2 : Int32} {x3 : Int32} {x4 : Int32} {ls : Array Slot} {H : Heap} {locs : List Loc} (C : Cx p s m args meth c cX8_readWalker (some .boolean) 6 RX8) (G : Gf E s) (X : Hx E σ s H locs) (hk_a1 : kd a1 = 2) (hl : lv_has ls 6 [(0, .ref (gB E + 1)), (1, .ref (gB E + a1)), (2, .int x2), (3, .int x3), (4, .int x4)]) (h : X8_readWalker_106 a1 x2 x3 x4 σ = some r) : W p l e (RM 4) s m args below meth c H locs 0 0 (QI E below args s r.1 r.2) (F0 m 106 ls []) := by
  rw [X8_readWalker_106] at h
  refine lv_iconst (v := -1) C.1 C.2.1 dX8_readWalker_106 (by decide) ?_
  refine lv_istore (lv' := [(5, .int (-1 : Int32)), (0, .ref (gB E + 1)), (1, .ref (gB E + a1)), (2, .int x2), (3, .int x3), (4, .int x4)]) C.1 C.2.1 dX8_readWalker_107 hl (by decide) rfl (fun ls hl => ?_)
  refine lv_aload_n C.1 C.2.1 dX8_readWalker_109 rfl (lv_at hl 1 rfl) ?_
  refine gsT C G X (i := 21) (x := 22) (by decide) (by decide) (nm := "HEADS") rfl k_955 dX8_readWalker_110 ?_
  obtain ⟨r113, σ113, e113, h⟩ := bnd2 h
  refine afI (r0 := r113) (σ' := σ113) X (runV C G X q_X10_take k_914 k_915 k_925 (rcX10 G X kd_1) (c_X10_take l E e113) rfl hl.1 rfl (Nat.le_of_ble_eq_true rfl) ⟨Nat.le_of_ble_eq_true rfl, Nat.le_of_ble_eq_true rfl⟩ ⟨Nat.le_of_ble_eq_true rfl, Nat.le_of_ble_eq_true rfl⟩ dX8_readWalker_113) (fun H locs X => ?_)
  refine lv_if_eq (tgt := 138) C.1 C.2.1 dX8_readWalker_116 (by decide) (fun c116 => ?_) (fun c116 => ?_)
  · replace h := ipos c116 h
    exact w_X8_readWalker_138 C G X hk_a1 (lv_sub hl [2, 3, 4, 5, 0] rfl) h
  · replace h := ineg c116 h
    refine lv_aload_n C.1 C.2.1 dX8_readWalker_119 rfl (lv_at hl 1 rfl) ?_
    refine lv_aload_n C.1 C.2.1 dX8_readWalker_120 rfl (lv_at hl 2 rfl) ?_
    refine gfX7 C G X (k := a1) hk_a1 0 (v := .int (σ113 a1 0)) rfl rfl (by decide) k_201 rfl dX8_readWalker_121 ?_
    refine lv_iconst (v := 1) C.1 C.2.1 dX8_readWalker_124 (by decide) ?_
    refine lv_isub C.1 C.2.1 dX8_readWalker_125 ?_
    obtain ⟨r126, σ126, e126, h⟩ := bnd2 h
    refine afI (r0 := r126) (σ' := σ126) X (runV C G X q_X10_needUpTo k_931 k_932 k_930 (rcX10 G X kd_1) (c_X10_needUpTo l E e126) rfl hl.1 rfl (Nat.le_of_ble_eq_true rfl) ⟨Nat.le_of_ble_eq_true rfl, Nat.le_of_ble_eq_true rfl⟩ ⟨Nat.le_of_ble_eq_true rfl, Nat.le_of_ble_eq_true rfl⟩ dX8_readWalker_126) (fun H locs X => ?_)
    refine lv_istore (lv' := [(5, .int r126), (0, .ref (gB E + 1)), (1, .ref (gB E + a1)), (2, .int x2), (3, .int x3), (4, .int x4)]) C.1 C.2.1 dX8_readWalker_129 hl (by decide) rfl (fun ls hl => ?_)
    refine lv_iload C.1 C.2.1 dX8_readWalker_131 (lv_at hl 0 rfl) ?_
    refine lv_if_ge (tgt := 138) C.1 C.2.1 dX8_readWalker_133 (by decide) (fun c133 => ?_) (fun c133 => ?_)
    · replace h := ipos c133 h
      exact w_X8_readWalker_138 C G X hk_a1 (lv_sub hl [2, 3, 4, 5, 0] rfl) h
    · replace h := ineg c133 h
      refine lv_iconst (v := 0) C.1 C.2.1 dX8_readWalker_136 (by decide) ?_
      obtain ⟨u137, z137, h⟩ := bnd h
      rw [← Option.some.inj h]
      exact rtZ C X (gb_s z137) dX8_readWalker_137

set_option maxRecDepth 20000 in
theorem w_X8_readWalker_49 {r : (Int32 × Mem)} {σ : Mem} {a1 : Nat} {x2 : Int32} {y0 : Int32} {ls : Array Slot} {H : Heap} {locs : List Loc} (C : Cx p s m args meth c cX8_readWalker (some .boolean) 6 RX8) (G : Gf E s) (X : Hx E σ s H locs) (hk_a1 : kd a1 = 2) (hl : lv_has ls 6 [(0, .ref (gB E + 1)), (1, .ref (gB E + a1)), (2, .int x2)]) (h : X8_readWalker_49 a1 x2 y0 σ = some r) : W p l e (RM 4) s m args below meth c H locs 0 0 (QI E below args s r.1 r.2) (F0 m 49 ls [.int y0]) := by
  rw [X8_readWalker_49] at h
  refine lv_istore_n (lv' := [(3, .int y0), (0, .ref (gB E + 1)), (1, .ref (gB E + a1)), (2, .int x2)]) C.1 C.2.1 dX8_readWalker_49 rfl hl (by decide) rfl (fun ls hl => ?_)
  refine lv_iload_n C.1 C.2.1 dX8_readWalker_50 rfl (lv_at hl 0 rfl) ?_
  refine lv_if_ge (tgt := 56) C.1 C.2.1 dX8_readWalker_51 (by decide) (fun c51 => ?_) (fun c51 => ?_)
  · replace h := ipos c51 h
    refine lv_iconst (v := -1) C.1 C.2.1 dX8_readWalker_56 (by decide) ?_
    refine lv_istore (lv' := [(4, .int (-1 : Int32)), (3, .int y0), (0, .ref (gB E + 1)), (1, .ref (gB E + a1)), (2, .int x2)]) C.1 C.2.1 dX8_readWalker_57 hl (by decide) rfl (fun ls hl => ?_)
    refine lv_aload_n C.1 C.2.1 dX8_readWalker_59 rfl (lv_at hl 2 rfl) ?_
    refine gsT C G X (i := 20) (x := 21) (by decide) (by decide) (nm := "OWNS") rfl k_948 dX8_readWalker_60 ?_
    obtain ⟨r63, σ63, e63, h⟩ := bnd2 h
    refine afI (r0 := r63) (σ' := σ63) X (runV C G X q_X10_take k_914 k_915 k_925 (rcX10 G X kd_1) (c_X10_take l E e63) rfl hl.1 rfl (Nat.le_of_ble_eq_true rfl) ⟨Nat.le_of_ble_eq_true rfl, Nat.le_of_ble_eq_true rfl⟩ ⟨Nat.le_of_ble_eq_true rfl, Nat.le_of_ble_eq_true rfl⟩ dX8_readWalker_63) (fun H locs X => ?_)
    refine lv_if_eq (tgt := 106) C.1 C.2.1 dX8_readWalker_66 (by decide) (fun c66 => ?_) (fun c66 => ?_)
    · replace h := ipos c66 h
      exact w_X8_readWalker_106 C G X hk_a1 (lv_sub hl [2, 3, 4, 1, 0] rfl) h
    · replace h := ineg c66 h
      refine lv_aload_n C.1 C.2.1 dX8_readWalker_69 rfl (lv_at hl 2 rfl) ?_
      refine lv_aload_n C.1 C.2.1 dX8_readWalker_70 rfl (lv_at hl 3 rfl) ?_
      refine gfX7 C G X (k := a1) hk_a1 0 (v := .int (σ63 a1 0)) rfl rfl (by decide) k_201 rfl dX8_readWalker_71 ?_
      refine lv_iconst (v := 1) C.1 C.2.1 dX8_readWalker_74 (by decide) ?_
      refine lv_isub C.1 C.2.1 dX8_readWalker_75 ?_
      obtain ⟨r76, σ76, e76, h⟩ := bnd2 h
      refine afI (r0 := r76) (σ' := σ76) X (runV C G X q_X10_needUpTo k_931 k_932 k_930 (rcX10 G X kd_1) (c_X10_needUpTo l E e76) rfl hl.1 rfl (Nat.le_of_ble_eq_true rfl) ⟨Nat.le_of_ble_eq_true rfl, Nat.le_of_ble_eq_true rfl⟩ ⟨Nat.le_of_ble_eq_true rfl, Nat.le_of_ble_eq_true rfl⟩ dX8_readWalker_76) (fun H locs X => ?_)
      refine lv_istore (lv' := [(4, .int r76), (3, .int y0), (0, .ref (gB E + 1)), (1, .ref (gB E + a1)), (2, .int x2)]) C.1 C.2.1 dX8_readWalker_79 hl (by decide) rfl (fun ls hl => ?_)
      refine lv_iload C.1 C.2.1 dX8_readWalker_81 (lv_at hl 0 rfl) ?_
      refine lv_if_ge (tgt := 88) C.1 C.2.1 dX8_readWalker_83 (by decide) (fun c83 => ?_) (fun c83 => ?_)
      · replace h := ipos c83 h
        refine lv_aload_n C.1 C.2.1 dX8_readWalker_88 rfl (lv_at hl 3 rfl) ?_
        refine gfX7 C G X (k := a1) hk_a1 10 (v := .ref (gB E + (a1 + 3))) rfl rfl (by decide) k_237 rfl dX8_readWalker_89 ?_
        refine lv_iload C.1 C.2.1 dX8_readWalker_92 (lv_at hl 0 rfl) ?_
        obtain ⟨r94, e94, h⟩ := bnd h
        refine afI X (runV C G X q_X6_get k_498 k_499 k_950 (rcX6 G X (kf_2_3 hk_a1)) (c_X6_get l E (kf_2_3 hk_a1) e94) rfl hl.1 rfl (Nat.le_of_ble_eq_true rfl) ⟨Nat.le_of_ble_eq_true rfl, Nat.le_of_ble_eq_true rfl⟩ ⟨Nat.le_of_ble_eq_true rfl, Nat.le_of_ble_eq_true rfl⟩ dX8_readWalker_94) (fun H locs X => ?_)
        refine lv_iconst (v := -1) C.1 C.2.1 dX8_readWalker_97 (by decide) ?_
        refine lv_icmp_eq (tgt := 106) C.1 C.2.1 dX8_readWalker_98 (by decide) (fun c98 => ?_) (fun c98 => ?_)
        · replace h := ipos c98 h
          exact w_X8_readWalker_106 C G X hk_a1 (lv_sub hl [2, 3, 4, 1, 0] rfl) h
        · replace h := ineg c98 h
          refine lv_aload_n C.1 C.2.1 dX8_readWalker_101 rfl (lv_at hl 2 rfl) ?_
          obtain ⟨r102, σ102, e102, h⟩ := bnd2 h
          refine afI (r0 := r102) (σ' := σ102) X (runV C G X q_X10_wrongBefore k_952 k_953 k_951 (rcX10 G X kd_1) (c_X10_wrongBefore l E e102) rfl hl.1 rfl (Nat.le_of_ble_eq_true rfl) ⟨Nat.le_of_ble_eq_true rfl, Nat.le_of_ble_eq_true rfl⟩ ⟨Nat.le_of_ble_eq_true rfl, Nat.le_of_ble_eq_true rfl⟩ dX8_readWalker_102) (fun H locs X => ?_)
          obtain ⟨u105, z105, h⟩ := bnd h
          rw [← Option.some.inj h]
          exact rtZ C X (gb_s z105) dX8_readWalker_105
      · replace h := ineg c83 h
        refine lv_iconst (v := 0) C.1 C.2.1 dX8_readWalker_86 (by decide) ?_
        obtain ⟨u87, z87, h⟩ := bnd h
        rw [← Option.some.inj h]
        exact rtZ C X (gb_s z87) dX8_readWalker_87
  · replace h := ineg c51 h
    refine lv_iconst (v := 0) C.1 C.2.1 dX8_readWalker_54 (by decide) ?_
    obtain ⟨u55, z55, h⟩ := bnd h
    rw [← Option.some.inj h]
    exact rtZ C X (gb_s z55) dX8_readWalker_55

set_option maxRecDepth 20000 in
theorem w_X8_readWalker_48 {r : (Int32 × Mem)} {σ : Mem} {a1 : Nat} {x2 : Int32} {ls : Array Slot} {H : Heap} {locs : List Loc} (C : Cx p s m args meth c cX8_readWalker (some .boolean) 6 RX8) (G : Gf E s) (X : Hx E σ s H locs) (hk_a1 : kd a1 = 2) (hl : lv_has ls 6 [(0, .ref (gB E + 1)), (1, .ref (gB E + a1)), (2, .int x2)]) (h : X8_readWalker_48 a1 x2 σ = some r) : W p l e (RM 4) s m args below meth c H locs 0 0 (QI E below args s r.1 r.2) (F0 m 48 ls []) := by
  rw [X8_readWalker_48] at h
  refine lv_iconst (v := -1) C.1 C.2.1 dX8_readWalker_48 (by decide) ?_
  exact w_X8_readWalker_49 C G X hk_a1 (lv_sub hl [0, 1, 2] rfl) h

set_option maxRecDepth 20000 in
theorem w_X8_readWalker_24 {r : (Int32 × Mem)} {σ : Mem} {a1 : Nat} {y0 : Int32} {ls : Array Slot} {H : Heap} {locs : List Loc} (C : Cx p s m args meth c cX8_readWalker (some .boolean) 6 RX8) (G : Gf E s) (X : Hx E σ s H locs) (hk_a1 : kd a1 = 2) (hl : lv_has ls 6 [(0, .ref (gB E + 1)), (1, .ref (gB E + a1))]) (h : X8_readWalker_24 a1 y0 σ = some r) : W p l e (RM 4) s m args below meth c H locs 0 0 (QI E below args s r.1 r.2) (F0 m 24 ls [.int y0]) := by
  rw [X8_readWalker_24] at h
  refine lv_istore_n (lv' := [(2, .int y0), (0, .ref (gB E + 1)), (1, .ref (gB E + a1))]) C.1 C.2.1 dX8_readWalker_24 rfl hl (by decide) rfl (fun ls hl => ?_)
  refine lv_iload_n C.1 C.2.1 dX8_readWalker_25 rfl (lv_at hl 0 rfl) ?_
  refine lv_if_lt (tgt := 48) C.1 C.2.1 dX8_readWalker_26 (by decide) (fun c26 => ?_) (fun c26 => ?_)
  · replace h := ipos c26 h
    exact w_X8_readWalker_48 C G X hk_a1 (lv_sub hl [1, 2, 0] rfl) h
  · replace h := ineg c26 h
    refine lv_aload_n C.1 C.2.1 dX8_readWalker_29 rfl (lv_at hl 1 rfl) ?_
    refine gsT C G X (i := 13) (x := 14) (by decide) (by decide) (nm := "TAPER") rfl k_947 dX8_readWalker_30 ?_
    obtain ⟨r33, σ33, e33, h⟩ := bnd2 h
    refine afI (r0 := r33) (σ' := σ33) X (runV C G X q_X10_need k_910 k_911 k_946 (rcX10 G X kd_1) (c_X10_need l E e33) rfl hl.1 rfl (Nat.le_of_ble_eq_true rfl) ⟨Nat.le_of_ble_eq_true rfl, Nat.le_of_ble_eq_true rfl⟩ ⟨Nat.le_of_ble_eq_true rfl, Nat.le_of_ble_eq_true rfl⟩ dX8_readWalker_33) (fun H locs X => ?_)
    refine lv_if_eq (tgt := 48) C.1 C.2.1 dX8_readWalker_36 (by decide) (fun c36 => ?_) (fun c36 => ?_)
    · replace h := ipos c36 h
      exact w_X8_readWalker_48 C G X hk_a1 (lv_sub hl [1, 2, 0] rfl) h
    · replace h := ineg c36 h
      refine lv_aload_n C.1 C.2.1 dX8_readWalker_39 rfl (lv_at hl 1 rfl) ?_
      refine lv_bipush (v := 99) C.1 C.2.1 dX8_readWalker_40 (by decide) ?_
      obtain ⟨r42, σ42, e42, h⟩ := bnd2 h
      refine afI (r0 := r42) (σ' := σ42) X (runV C G X q_X10_needUpTo k_931 k_932 k_930 (rcX10 G X kd_1) (c_X10_needUpTo l E e42) rfl hl.1 rfl (Nat.le_of_ble_eq_true rfl) ⟨Nat.le_of_ble_eq_true rfl, Nat.le_of_ble_eq_true rfl⟩ ⟨Nat.le_of_ble_eq_true rfl, Nat.le_of_ble_eq_true rfl⟩ dX8_readWalker_42) (fun H locs X => ?_)
      refine lv_goto (tgt := 49) C.1 C.2.1 dX8_readWalker_45 (by decide) ?_
      exact w_X8_readWalker_49 C G X hk_a1 (lv_sub hl [1, 2, 0] rfl) h

set_option maxRecDepth 20000 in
theorem w_X8_readWalker {r : (Int32 × Mem)} {σ : Mem} {a1 : Nat} {ls : Array Slot} {H : Heap} {locs : List Loc} (C : Cx p s m args meth c cX8_readWalker (some .boolean) 6 RX8) (G : Gf E s) (X : Hx E σ s H locs) (hk_a1 : kd a1 = 2) (hl : lv_has ls 6 [(0, .ref (gB E + 1)), (1, .ref (gB E + a1))]) (h : X8_readWalker a1 σ = some r) : W p l e (RM 4) s m args below meth c H locs 0 0 (QI E below args s r.1 r.2) (F0 m 0 ls []) := by
  rw [X8_readWalker] at h
  refine lv_aload_n C.1 C.2.1 dX8_readWalker_0 rfl (lv_at hl 0 rfl) ?_
  refine gsT C G X (i := 19) (x := 20) (by decide) (by decide) (nm := "AT") rfl k_944 dX8_readWalker_1 ?_
  obtain ⟨r4, σ4, e4, h⟩ := bnd2 h
  refine afI (r0 := r4) (σ' := σ4) X (runV C G X q_X10_need k_910 k_911 k_946 (rcX10 G X kd_1) (c_X10_need l E e4) rfl hl.1 rfl (Nat.le_of_ble_eq_true rfl) ⟨Nat.le_of_ble_eq_true rfl, Nat.le_of_ble_eq_true rfl⟩ ⟨Nat.le_of_ble_eq_true rfl, Nat.le_of_ble_eq_true rfl⟩ dX8_readWalker_4) (fun H locs X => ?_)
  refine lv_if_eq (tgt := 23) C.1 C.2.1 dX8_readWalker_7 (by decide) (fun c7 => ?_) (fun c7 => ?_)
  · replace h := ipos c7 h
    refine lv_iconst (v := -1) C.1 C.2.1 dX8_readWalker_23 (by decide) ?_
    exact w_X8_readWalker_24 C G X hk_a1 (lv_sub hl [0, 1] rfl) h
  · replace h := ineg c7 h
    refine lv_aload_n C.1 C.2.1 dX8_readWalker_10 rfl (lv_at hl 0 rfl) ?_
    refine lv_aload_n C.1 C.2.1 dX8_readWalker_11 rfl (lv_at hl 1 rfl) ?_
    refine gfX7 C G X (k := a1) hk_a1 0 (v := .int (σ4 a1 0)) rfl rfl (by decide) k_201 rfl dX8_readWalker_12 ?_
    refine lv_iconst (v := 1) C.1 C.2.1 dX8_readWalker_15 (by decide) ?_
    refine lv_isub C.1 C.2.1 dX8_readWalker_16 ?_
    obtain ⟨r17, σ17, e17, h⟩ := bnd2 h
    refine afI (r0 := r17) (σ' := σ17) X (runV C G X q_X10_needUpTo k_931 k_932 k_930 (rcX10 G X kd_1) (c_X10_needUpTo l E e17) rfl hl.1 rfl (Nat.le_of_ble_eq_true rfl) ⟨Nat.le_of_ble_eq_true rfl, Nat.le_of_ble_eq_true rfl⟩ ⟨Nat.le_of_ble_eq_true rfl, Nat.le_of_ble_eq_true rfl⟩ dX8_readWalker_17) (fun H locs X => ?_)
    refine lv_goto (tgt := 24) C.1 C.2.1 dX8_readWalker_20 (by decide) ?_
    exact w_X8_readWalker_24 C G X hk_a1 (lv_sub hl [0, 1] rfl) h

theorem c_X8_readWalker (l : Launch) (E : GE) {σ : Mem} {a1 : Nat} (hk_a1 : kd a1 = 2) {r : (Int32 × Mem)} (h : X8_readWalker a1 σ = some r) : CtI l E yX8_readWalker cX8_readWalker 6 .boolean 4 [.ref (gB E + 1), .ref (gB E + a1)] σ r.1 r.2 := by
  refine Met.ofW (cc := cX8_readWalker) (maxL := 6) (ret := (some .boolean)) (by decide) rfl ?_
  intro p e s m args below meth c s₁ B hml hv
  obtain ⟨rfl, G, X⟩ := start hv
  have C := cxof B hml
  have hl := lv_entry [.ref (gB E + 1), .ref (gB E + a1)] (n := 6) (Nat.le_of_ble_eq_true rfl)
  rw [lg_entry_eq]
  generalize (lg_sl [.ref (gB E + 1), .ref (gB E + a1)] ++ List.replicate (6 - (lg_sl [.ref (gB E + 1), .ref (gB E + a1)]).length) Slot.unset).toArray = ls at hl ⊢
  exact w_X8_readWalker C G X hk_a1 hl h

set_option maxRecDepth 20000 in
theorem w_X7_setWay {r : Mem} {σ : Mem} {a0 : Nat} {x1 : Int32} {x2 : Int32} {x3 : Int32} {ls : Array Slot} {H : Heap} {locs : List Loc} (C : Cx p s m args meth c cX7_setWay none 4 RX7) (G : Gf E s) (X : Hx E σ s H locs) (hk_a0 : kd a0 = 2) (hl : lv_has ls 4 [(0, .ref (gB E + a0)), (1, .int x1), (2, .int x2), (3, .int x3)]) (h : X7_setWay a0 x1 x2 x3 σ = some r) : W p l e (RM 2) s m args below meth c H locs 0 0 (QV E below args s r) (F0 m 0 ls []) := by
  rw [X7_setWay] at h
  refine lv_iload_n C.1 C.2.1 dX7_setWay_0 rfl (lv_at hl 3 rfl) ?_
  refine lv_if_eq (tgt := 49) C.1 C.2.1 dX7_setWay_1 (by decide) (fun c1 => ?_) (fun c1 => ?_)
  · replace h := ipos c1 h
    refine lv_aload_n C.1 C.2.1 dX7_setWay_49 rfl (lv_at hl 0 rfl) ?_
    refine gfX7 C G X (k := a0) hk_a0 12 (v := .ref (gB E + (a0 + 7))) rfl rfl (by decide) k_245 rfl dX7_setWay_50 ?_
    refine lv_iload_n C.1 C.2.1 dX7_setWay_53 rfl (lv_at hl 1 rfl) ?_
    refine lv_aload_n C.1 C.2.1 dX7_setWay_54 rfl (lv_at hl 0 rfl) ?_
    refine gfX7 C G X (k := a0) hk_a0 12 (v := .ref (gB E + (a0 + 7))) rfl rfl (by decide) k_245 rfl dX7_setWay_55 ?_
    refine lv_iload_n C.1 C.2.1 dX7_setWay_58 rfl (lv_at hl 1 rfl) ?_
    obtain ⟨r59, e59, h⟩ := bnd h
    refine afI X (runV C G X q_X6_get k_498 k_499 k_515 (rcX6 G X (kf_2_7 hk_a0)) (c_X6_get l E (kf_2_7 hk_a0) e59) rfl hl.1 rfl (Nat.le_of_ble_eq_true rfl) ⟨Nat.le_of_ble_eq_true rfl, Nat.le_of_ble_eq_true rfl⟩ ⟨Nat.le_of_ble_eq_true rfl, Nat.le_of_ble_eq_true rfl⟩ dX7_setWay_59) (fun H locs X => ?_)
    refine lv_iload_n C.1 C.2.1 dX7_setWay_62 rfl (lv_at hl 2 rfl) ?_
    obtain ⟨r63, e63, h⟩ := bnd h
    refine afI X (runN C G X q_X11_bit k_506 nw_8 (c_X11_bit l E e63) rfl hl.1 rfl (Nat.le_of_ble_eq_true rfl) ⟨Nat.le_of_ble_eq_true rfl, Nat.le_of_ble_eq_true rfl⟩ ⟨Nat.le_of_ble_eq_true rfl, Nat.le_of_ble_eq_true rfl⟩ dX7_setWay_63) (fun H locs X => ?_)
    refine lv_iconst (v := -1) C.1 C.2.1 dX7_setWay_66 (by decide) ?_
    refine lv_ixor C.1 C.2.1 dX7_setWay_67 ?_
    refine lv_iand C.1 C.2.1 dX7_setWay_68 ?_
    obtain ⟨σ69, e69, h⟩ := bnd h
    refine afV X (runV C G X q_X6_set k_451 k_452 k_582 (rcX6 G X (kf_2_7 hk_a0)) (c_X6_set l E (kf_2_7 hk_a0) e69) rfl hl.1 rfl (Nat.le_of_ble_eq_true rfl) ⟨Nat.le_of_ble_eq_true rfl, Nat.le_of_ble_eq_true rfl⟩ ⟨Nat.le_of_ble_eq_true rfl, Nat.le_of_ble_eq_true rfl⟩ dX7_setWay_69) (fun H locs X => ?_)
    refine lv_aload_n C.1 C.2.1 dX7_setWay_72 rfl (lv_at hl 0 rfl) ?_
    refine gfX7 C G X (k := a0) hk_a0 12 (v := .ref (gB E + (a0 + 7))) rfl rfl (by decide) k_245 rfl dX7_setWay_73 ?_
    refine lv_iload_n C.1 C.2.1 dX7_setWay_76 rfl (lv_at hl 2 rfl) ?_
    refine lv_aload_n C.1 C.2.1 dX7_setWay_77 rfl (lv_at hl 0 rfl) ?_
    refine gfX7 C G X (k := a0) hk_a0 12 (v := .ref (gB E + (a0 + 7))) rfl rfl (by decide) k_245 rfl dX7_setWay_78 ?_
    refine lv_iload_n C.1 C.2.1 dX7_setWay_81 rfl (lv_at hl 2 rfl) ?_
    obtain ⟨r82, e82, h⟩ := bnd h
    refine afI X (runV C G X q_X6_get k_498 k_499 k_515 (rcX6 G X (kf_2_7 hk_a0)) (c_X6_get l E (kf_2_7 hk_a0) e82) rfl hl.1 rfl (Nat.le_of_ble_eq_true rfl) ⟨Nat.le_of_ble_eq_true rfl, Nat.le_of_ble_eq_true rfl⟩ ⟨Nat.le_of_ble_eq_true rfl, Nat.le_of_ble_eq_true rfl⟩ dX7_setWay_82) (fun H locs X => ?_)
    refine lv_iload_n C.1 C.2.1 dX7_setWay_85 rfl (lv_at hl 1 rfl) ?_
    obtain ⟨r86, e86, h⟩ := bnd h
    refine afI X (runN C G X q_X11_bit k_506 nw_8 (c_X11_bit l E e86) rfl hl.1 rfl (Nat.le_of_ble_eq_true rfl) ⟨Nat.le_of_ble_eq_true rfl, Nat.le_of_ble_eq_true rfl⟩ ⟨Nat.le_of_ble_eq_true rfl, Nat.le_of_ble_eq_true rfl⟩ dX7_setWay_86) (fun H locs X => ?_)
    refine lv_iconst (v := -1) C.1 C.2.1 dX7_setWay_89 (by decide) ?_
    refine lv_ixor C.1 C.2.1 dX7_setWay_90 ?_
    refine lv_iand C.1 C.2.1 dX7_setWay_91 ?_
    obtain ⟨σ92, e92, h⟩ := bnd h
    refine afV X (runV C G X q_X6_set k_451 k_452 k_582 (rcX6 G X (kf_2_7 hk_a0)) (c_X6_set l E (kf_2_7 hk_a0) e92) rfl hl.1 rfl (Nat.le_of_ble_eq_true rfl) ⟨Nat.le_of_ble_eq_true rfl, Nat.le_of_ble_eq_true rfl⟩ ⟨Nat.le_of_ble_eq_true rfl, Nat.le_of_ble_eq_true rfl⟩ dX7_setWay_92) (fun H locs X => ?_)
    rw [← Option.some.inj h]
    exact rtV C X dX7_setWay_95
  · replace h := ineg c1 h
    refine lv_aload_n C.1 C.2.1 dX7_setWay_4 rfl (lv_at hl 0 rfl) ?_
    refine gfX7 C G X (k := a0) hk_a0 12 (v := .ref (gB E + (a0 + 7))) rfl rfl (by decide) k_245 rfl dX7_setWay_5 ?_
    refine lv_iload_n C.1 C.2.1 dX7_setWay_8 rfl (lv_at hl 1 rfl) ?_
    refine lv_aload_n C.1 C.2.1 dX7_setWay_9 rfl (lv_at hl 0 rfl) ?_
    refine gfX7 C G X (k := a0) hk_a0 12 (v := .ref (gB E + (a0 + 7))) rfl rfl (by decide) k_245 rfl dX7_setWay_10 ?_
    refine lv_iload_n C.1 C.2.1 dX7_setWay_13 rfl (lv_at hl 1 rfl) ?_
    obtain ⟨r14, e14, h⟩ := bnd h
    refine afI X (runV C G X q_X6_get k_498 k_499 k_515 (rcX6 G X (kf_2_7 hk_a0)) (c_X6_get l E (kf_2_7 hk_a0) e14) rfl hl.1 rfl (Nat.le_of_ble_eq_true rfl) ⟨Nat.le_of_ble_eq_true rfl, Nat.le_of_ble_eq_true rfl⟩ ⟨Nat.le_of_ble_eq_true rfl, Nat.le_of_ble_eq_true rfl⟩ dX7_setWay_14) (fun H locs X => ?_)
    refine lv_iload_n C.1 C.2.1 dX7_setWay_17 rfl (lv_at hl 2 rfl) ?_
    obtain ⟨r18, e18, h⟩ := bnd h
    refine afI X (runN C G X q_X11_bit k_506 nw_8 (c_X11_bit l E e18) rfl hl.1 rfl (Nat.le_of_ble_eq_true rfl) ⟨Nat.le_of_ble_eq_true rfl, Nat.le_of_ble_eq_true rfl⟩ ⟨Nat.le_of_ble_eq_true rfl, Nat.le_of_ble_eq_true rfl⟩ dX7_setWay_18) (fun H locs X => ?_)
    refine lv_ior C.1 C.2.1 dX7_setWay_21 ?_
    obtain ⟨σ22, e22, h⟩ := bnd h
    refine afV X (runV C G X q_X6_set k_451 k_452 k_582 (rcX6 G X (kf_2_7 hk_a0)) (c_X6_set l E (kf_2_7 hk_a0) e22) rfl hl.1 rfl (Nat.le_of_ble_eq_true rfl) ⟨Nat.le_of_ble_eq_true rfl, Nat.le_of_ble_eq_true rfl⟩ ⟨Nat.le_of_ble_eq_true rfl, Nat.le_of_ble_eq_true rfl⟩ dX7_setWay_22) (fun H locs X => ?_)
    refine lv_aload_n C.1 C.2.1 dX7_setWay_25 rfl (lv_at hl 0 rfl) ?_
    refine gfX7 C G X (k := a0) hk_a0 12 (v := .ref (gB E + (a0 + 7))) rfl rfl (by decide) k_245 rfl dX7_setWay_26 ?_
    refine lv_iload_n C.1 C.2.1 dX7_setWay_29 rfl (lv_at hl 2 rfl) ?_
    refine lv_aload_n C.1 C.2.1 dX7_setWay_30 rfl (lv_at hl 0 rfl) ?_
    refine gfX7 C G X (k := a0) hk_a0 12 (v := .ref (gB E + (a0 + 7))) rfl rfl (by decide) k_245 rfl dX7_setWay_31 ?_
    refine lv_iload_n C.1 C.2.1 dX7_setWay_34 rfl (lv_at hl 2 rfl) ?_
    obtain ⟨r35, e35, h⟩ := bnd h
    refine afI X (runV C G X q_X6_get k_498 k_499 k_515 (rcX6 G X (kf_2_7 hk_a0)) (c_X6_get l E (kf_2_7 hk_a0) e35) rfl hl.1 rfl (Nat.le_of_ble_eq_true rfl) ⟨Nat.le_of_ble_eq_true rfl, Nat.le_of_ble_eq_true rfl⟩ ⟨Nat.le_of_ble_eq_true rfl, Nat.le_of_ble_eq_true rfl⟩ dX7_setWay_35) (fun H locs X => ?_)
    refine lv_iload_n C.1 C.2.1 dX7_setWay_38 rfl (lv_at hl 1 rfl) ?_
    obtain ⟨r39, e39, h⟩ := bnd h
    refine afI X (runN C G X q_X11_bit k_506 nw_8 (c_X11_bit l E e39) rfl hl.1 rfl (Nat.le_of_ble_eq_true rfl) ⟨Nat.le_of_ble_eq_true rfl, Nat.le_of_ble_eq_true rfl⟩ ⟨Nat.le_of_ble_eq_true rfl, Nat.le_of_ble_eq_true rfl⟩ dX7_setWay_39) (fun H locs X => ?_)
    refine lv_ior C.1 C.2.1 dX7_setWay_42 ?_
    obtain ⟨σ43, e43, h⟩ := bnd h
    refine afV X (runV C G X q_X6_set k_451 k_452 k_582 (rcX6 G X (kf_2_7 hk_a0)) (c_X6_set l E (kf_2_7 hk_a0) e43) rfl hl.1 rfl (Nat.le_of_ble_eq_true rfl) ⟨Nat.le_of_ble_eq_true rfl, Nat.le_of_ble_eq_true rfl⟩ ⟨Nat.le_of_ble_eq_true rfl, Nat.le_of_ble_eq_true rfl⟩ dX7_setWay_43) (fun H locs X => ?_)
    refine lv_goto (tgt := 95) C.1 C.2.1 dX7_setWay_46 (by decide) ?_
    rw [← Option.some.inj h]
    exact rtV C X dX7_setWay_95

theorem c_X7_setWay (l : Launch) (E : GE) {σ : Mem} {a0 : Nat} {x1 : Int32} {x2 : Int32} {x3 : Int32} (hk_a0 : kd a0 = 2) {r : Mem} (h : X7_setWay a0 x1 x2 x3 σ = some r) : CtV l E yX7_setWay cX7_setWay 4 2 [.ref (gB E + a0), .int x1, .int x2, .int x3] σ r := by
  refine Met.ofW (cc := cX7_setWay) (maxL := 4) (ret := none) (by decide) rfl ?_
  intro p e s m args below meth c s₁ B hml hv
  obtain ⟨rfl, G, X⟩ := start hv
  have C := cxof B hml
  have hl := lv_entry [.ref (gB E + a0), .int x1, .int x2, .int x3] (n := 4) (Nat.le_of_ble_eq_true rfl)
  rw [lg_entry_eq]
  generalize (lg_sl [.ref (gB E + a0), .int x1, .int x2, .int x3] ++ List.replicate (4 - (lg_sl [.ref (gB E + a0), .int x1, .int x2, .int x3]).length) Slot.unset).toArray = ls at hl ⊢
  exact w_X7_setWay C G X hk_a0 hl h

set_option maxRecDepth 20000 in
theorem w_X8_readWay_29 {r : (Int32 × Mem)} {σ : Mem} {a1 : Nat} {x2 : Int32} {y0 : Int32} {ls : Array Slot} {H : Heap} {locs : List Loc} (C : Cx p s m args meth c cX8_readWay (some .boolean) 4 RX8) (G : Gf E s) (X : Hx E σ s H locs) (hk_a1 : kd a1 = 2) (hl : lv_has ls 4 [(0, .ref (gB E + 1)), (1, .ref (gB E + a1)), (2, .int x2)]) (h : X8_readWay_29 a1 x2 y0 σ = some r) : W p l e (RM 3) s m args below meth c H locs 0 0 (QI E below args s r.1 r.2) (F0 m 29 ls [.int y0]) := by
  rw [X8_readWay_29] at h
  refine lv_istore_n (lv' := [(3, .int y0), (0, .ref (gB E + 1)), (1, .ref (gB E + a1)), (2, .int x2)]) C.1 C.2.1 dX8_readWay_29 rfl hl (by decide) rfl (fun ls hl => ?_)
  refine lv_iload_n C.1 C.2.1 dX8_readWay_30 rfl (lv_at hl 0 rfl) ?_
  refine lv_if_ge (tgt := 36) C.1 C.2.1 dX8_readWay_31 (by decide) (fun c31 => ?_) (fun c31 => ?_)
  · replace h := ipos c31 h
    refine lv_iload_n C.1 C.2.1 dX8_readWay_36 rfl (lv_at hl 0 rfl) ?_
    refine lv_iload_n C.1 C.2.1 dX8_readWay_37 rfl (lv_at hl 3 rfl) ?_
    refine lv_icmp_ne (tgt := 46) C.1 C.2.1 dX8_readWay_38 (by decide) (fun c38 => ?_) (fun c38 => ?_)
    · replace h := ineg c38 h
      refine lv_aload_n C.1 C.2.1 dX8_readWay_46 rfl (lv_at hl 2 rfl) ?_
      refine lv_iload_n C.1 C.2.1 dX8_readWay_47 rfl (lv_at hl 3 rfl) ?_
      refine lv_iload_n C.1 C.2.1 dX8_readWay_48 rfl (lv_at hl 0 rfl) ?_
      refine lv_iconst (v := 1) C.1 C.2.1 dX8_readWay_49 (by decide) ?_
      obtain ⟨σ50, e50, h⟩ := bnd h
      refine afV X (runV C G X q_X7_setWay k_968 k_969 k_967 (rcX7 G X hk_a1) (c_X7_setWay l E hk_a1 e50) rfl hl.1 rfl (Nat.le_of_ble_eq_true rfl) ⟨Nat.le_of_ble_eq_true rfl, Nat.le_of_ble_eq_true rfl⟩ ⟨Nat.le_of_ble_eq_true rfl, Nat.le_of_ble_eq_true rfl⟩ dX8_readWay_50) (fun H locs X => ?_)
      refine lv_iconst (v := 1) C.1 C.2.1 dX8_readWay_53 (by decide) ?_
      obtain ⟨u54, z54, h⟩ := bnd h
      rw [← Option.some.inj h]
      exact rtZ C X (gb_s z54) dX8_readWay_54
    · replace h := ipos c38 h
      refine lv_aload_n C.1 C.2.1 dX8_readWay_41 rfl (lv_at hl 1 rfl) ?_
      obtain ⟨r42, σ42, e42, h⟩ := bnd2 h
      refine afI (r0 := r42) (σ' := σ42) X (runV C G X q_X10_wrongBefore k_952 k_953 k_951 (rcX10 G X kd_1) (c_X10_wrongBefore l E e42) rfl hl.1 rfl (Nat.le_of_ble_eq_true rfl) ⟨Nat.le_of_ble_eq_true rfl, Nat.le_of_ble_eq_true rfl⟩ ⟨Nat.le_of_ble_eq_true rfl, Nat.le_of_ble_eq_true rfl⟩ dX8_readWay_42) (fun H locs X => ?_)
      obtain ⟨u45, z45, h⟩ := bnd h
      rw [← Option.some.inj h]
      exact rtZ C X (gb_s z45) dX8_readWay_45
  · replace h := ineg c31 h
    refine lv_iconst (v := 0) C.1 C.2.1 dX8_readWay_34 (by decide) ?_
    obtain ⟨u35, z35, h⟩ := bnd h
    rw [← Option.some.inj h]
    exact rtZ C X (gb_s z35) dX8_readWay_35

set_option maxRecDepth 20000 in
theorem w_X8_readWay {r : (Int32 × Mem)} {σ : Mem} {a1 : Nat} {ls : Array Slot} {H : Heap} {locs : List Loc} (C : Cx p s m args meth c cX8_readWay (some .boolean) 4 RX8) (G : Gf E s) (X : Hx E σ s H locs) (hk_a1 : kd a1 = 2) (hl : lv_has ls 4 [(0, .ref (gB E + 1)), (1, .ref (gB E + a1))]) (h : X8_readWay a1 σ = some r) : W p l e (RM 3) s m args below meth c H locs 0 0 (QI E below args s r.1 r.2) (F0 m 0 ls []) := by
  rw [X8_readWay] at h
  refine lv_aload_n C.1 C.2.1 dX8_readWay_0 rfl (lv_at hl 0 rfl) ?_
  refine lv_aload_n C.1 C.2.1 dX8_readWay_1 rfl (lv_at hl 1 rfl) ?_
  refine gfX7 C G X (k := a1) hk_a1 0 (v := .int (σ a1 0)) rfl rfl (by decide) k_201 rfl dX8_readWay_2 ?_
  refine lv_iconst (v := 1) C.1 C.2.1 dX8_readWay_5 (by decide) ?_
  refine lv_isub C.1 C.2.1 dX8_readWay_6 ?_
  obtain ⟨r7, σ7, e7, h⟩ := bnd2 h
  refine afI (r0 := r7) (σ' := σ7) X (runV C G X q_X10_needUpTo k_931 k_932 k_930 (rcX10 G X kd_1) (c_X10_needUpTo l E e7) rfl hl.1 rfl (Nat.le_of_ble_eq_true rfl) ⟨Nat.le_of_ble_eq_true rfl, Nat.le_of_ble_eq_true rfl⟩ ⟨Nat.le_of_ble_eq_true rfl, Nat.le_of_ble_eq_true rfl⟩ dX8_readWay_7) (fun H locs X => ?_)
  refine lv_istore_n (lv' := [(2, .int r7), (0, .ref (gB E + 1)), (1, .ref (gB E + a1))]) C.1 C.2.1 dX8_readWay_10 rfl hl (by decide) rfl (fun ls hl => ?_)
  refine lv_iload_n C.1 C.2.1 dX8_readWay_11 rfl (lv_at hl 0 rfl) ?_
  refine lv_if_lt (tgt := 28) C.1 C.2.1 dX8_readWay_12 (by decide) (fun c12 => ?_) (fun c12 => ?_)
  · replace h := ipos c12 h
    refine lv_iconst (v := -1) C.1 C.2.1 dX8_readWay_28 (by decide) ?_
    exact w_X8_readWay_29 C G X hk_a1 (lv_sub hl [1, 2, 0] rfl) h
  · replace h := ineg c12 h
    refine lv_aload_n C.1 C.2.1 dX8_readWay_15 rfl (lv_at hl 1 rfl) ?_
    refine lv_aload_n C.1 C.2.1 dX8_readWay_16 rfl (lv_at hl 2 rfl) ?_
    refine gfX7 C G X (k := a1) hk_a1 0 (v := .int (σ7 a1 0)) rfl rfl (by decide) k_201 rfl dX8_readWay_17 ?_
    refine lv_iconst (v := 1) C.1 C.2.1 dX8_readWay_20 (by decide) ?_
    refine lv_isub C.1 C.2.1 dX8_readWay_21 ?_
    obtain ⟨r22, σ22, e22, h⟩ := bnd2 h
    refine afI (r0 := r22) (σ' := σ22) X (runV C G X q_X10_needUpTo k_931 k_932 k_930 (rcX10 G X kd_1) (c_X10_needUpTo l E e22) rfl hl.1 rfl (Nat.le_of_ble_eq_true rfl) ⟨Nat.le_of_ble_eq_true rfl, Nat.le_of_ble_eq_true rfl⟩ ⟨Nat.le_of_ble_eq_true rfl, Nat.le_of_ble_eq_true rfl⟩ dX8_readWay_22) (fun H locs X => ?_)
    refine lv_goto (tgt := 29) C.1 C.2.1 dX8_readWay_25 (by decide) ?_
    exact w_X8_readWay_29 C G X hk_a1 (lv_sub hl [1, 2, 0] rfl) h

theorem c_X8_readWay (l : Launch) (E : GE) {σ : Mem} {a1 : Nat} (hk_a1 : kd a1 = 2) {r : (Int32 × Mem)} (h : X8_readWay a1 σ = some r) : CtI l E yX8_readWay cX8_readWay 4 .boolean 3 [.ref (gB E + 1), .ref (gB E + a1)] σ r.1 r.2 := by
  refine Met.ofW (cc := cX8_readWay) (maxL := 4) (ret := (some .boolean)) (by decide) rfl ?_
  intro p e s m args below meth c s₁ B hml hv
  obtain ⟨rfl, G, X⟩ := start hv
  have C := cxof B hml
  have hl := lv_entry [.ref (gB E + 1), .ref (gB E + a1)] (n := 4) (Nat.le_of_ble_eq_true rfl)
  rw [lg_entry_eq]
  generalize (lg_sl [.ref (gB E + 1), .ref (gB E + a1)] ++ List.replicate (4 - (lg_sl [.ref (gB E + 1), .ref (gB E + a1)]).length) Slot.unset).toArray = ls at hl ⊢
  exact w_X8_readWay C G X hk_a1 hl h

set_option maxRecDepth 20000 in
theorem w_X8_readLikes_29 {r : (Int32 × Mem)} {σ : Mem} {a1 : Nat} {x2 : Int32} {y0 : Int32} {ls : Array Slot} {H : Heap} {locs : List Loc} (C : Cx p s m args meth c cX8_readLikes (some .boolean) 5 RX8) (G : Gf E s) (X : Hx E σ s H locs) (hk_a1 : kd a1 = 2) (hl : lv_has ls 5 [(0, .ref (gB E + 1)), (1, .ref (gB E + a1)), (2, .int x2)]) (h : X8_readLikes_29 a1 x2 y0 σ = some r) : W p l e (RM 3) s m args below meth c H locs 0 0 (QI E below args s r.1 r.2) (F0 m 29 ls [.int y0]) := by
  rw [X8_readLikes_29] at h
  refine lv_istore_n (lv' := [(3, .int y0), (0, .ref (gB E + 1)), (1, .ref (gB E + a1)), (2, .int x2)]) C.1 C.2.1 dX8_readLikes_29 rfl hl (by decide) rfl (fun ls hl => ?_)
  refine lv_iload_n C.1 C.2.1 dX8_readLikes_30 rfl (lv_at hl 0 rfl) ?_
  refine lv_if_ge (tgt := 36) C.1 C.2.1 dX8_readLikes_31 (by decide) (fun c31 => ?_) (fun c31 => ?_)
  · replace h := ipos c31 h
    refine lv_iload_n C.1 C.2.1 dX8_readLikes_36 rfl (lv_at hl 0 rfl) ?_
    refine lv_iload_n C.1 C.2.1 dX8_readLikes_37 rfl (lv_at hl 3 rfl) ?_
    refine lv_icmp_ne (tgt := 46) C.1 C.2.1 dX8_readLikes_38 (by decide) (fun c38 => ?_) (fun c38 => ?_)
    · replace h := ineg c38 h
      refine lv_aload_n C.1 C.2.1 dX8_readLikes_46 rfl (lv_at hl 1 rfl) ?_
      refine lv_bipush (v := 9) C.1 C.2.1 dX8_readLikes_47 (by decide) ?_
      obtain ⟨r49, σ49, e49, h⟩ := bnd2 h
      refine afI (r0 := r49) (σ' := σ49) X (runV C G X q_X10_needUpTo k_931 k_932 k_930 (rcX10 G X kd_1) (c_X10_needUpTo l E e49) rfl hl.1 rfl (Nat.le_of_ble_eq_true rfl) ⟨Nat.le_of_ble_eq_true rfl, Nat.le_of_ble_eq_true rfl⟩ ⟨Nat.le_of_ble_eq_true rfl, Nat.le_of_ble_eq_true rfl⟩ dX8_readLikes_49) (fun H locs X => ?_)
      refine lv_istore (lv' := [(4, .int r49), (3, .int y0), (0, .ref (gB E + 1)), (1, .ref (gB E + a1)), (2, .int x2)]) C.1 C.2.1 dX8_readLikes_52 hl (by decide) rfl (fun ls hl => ?_)
      refine lv_iload C.1 C.2.1 dX8_readLikes_54 (lv_at hl 0 rfl) ?_
      refine lv_if_ge (tgt := 61) C.1 C.2.1 dX8_readLikes_56 (by decide) (fun c56 => ?_) (fun c56 => ?_)
      · replace h := ipos c56 h
        refine lv_aload_n C.1 C.2.1 dX8_readLikes_61 rfl (lv_at hl 3 rfl) ?_
        refine lv_iload_n C.1 C.2.1 dX8_readLikes_62 rfl (lv_at hl 4 rfl) ?_
        refine lv_iload_n C.1 C.2.1 dX8_readLikes_63 rfl (lv_at hl 1 rfl) ?_
        refine lv_iload C.1 C.2.1 dX8_readLikes_64 (lv_at hl 0 rfl) ?_
        obtain ⟨σ66, e66, h⟩ := bnd h
        refine afV X (runV C G X q_X7_setLikes k_589 k_590 k_975 (rcX7 G X hk_a1) (c_X7_setLikes l E hk_a1 e66) rfl hl.1 rfl (Nat.le_of_ble_eq_true rfl) ⟨Nat.le_of_ble_eq_true rfl, Nat.le_of_ble_eq_true rfl⟩ ⟨Nat.le_of_ble_eq_true rfl, Nat.le_of_ble_eq_true rfl⟩ dX8_readLikes_66) (fun H locs X => ?_)
        refine lv_iconst (v := 1) C.1 C.2.1 dX8_readLikes_69 (by decide) ?_
        obtain ⟨u70, z70, h⟩ := bnd h
        rw [← Option.some.inj h]
        exact rtZ C X (gb_s z70) dX8_readLikes_70
      · replace h := ineg c56 h
        refine lv_iconst (v := 0) C.1 C.2.1 dX8_readLikes_59 (by decide) ?_
        obtain ⟨u60, z60, h⟩ := bnd h
        rw [← Option.some.inj h]
        exact rtZ C X (gb_s z60) dX8_readLikes_60
    · replace h := ipos c38 h
      refine lv_aload_n C.1 C.2.1 dX8_readLikes_41 rfl (lv_at hl 1 rfl) ?_
      obtain ⟨r42, σ42, e42, h⟩ := bnd2 h
      refine afI (r0 := r42) (σ' := σ42) X (runV C G X q_X10_wrongBefore k_952 k_953 k_951 (rcX10 G X kd_1) (c_X10_wrongBefore l E e42) rfl hl.1 rfl (Nat.le_of_ble_eq_true rfl) ⟨Nat.le_of_ble_eq_true rfl, Nat.le_of_ble_eq_true rfl⟩ ⟨Nat.le_of_ble_eq_true rfl, Nat.le_of_ble_eq_true rfl⟩ dX8_readLikes_42) (fun H locs X => ?_)
      obtain ⟨u45, z45, h⟩ := bnd h
      rw [← Option.some.inj h]
      exact rtZ C X (gb_s z45) dX8_readLikes_45
  · replace h := ineg c31 h
    refine lv_iconst (v := 0) C.1 C.2.1 dX8_readLikes_34 (by decide) ?_
    obtain ⟨u35, z35, h⟩ := bnd h
    rw [← Option.some.inj h]
    exact rtZ C X (gb_s z35) dX8_readLikes_35

set_option maxRecDepth 20000 in
theorem w_X8_readLikes {r : (Int32 × Mem)} {σ : Mem} {a1 : Nat} {ls : Array Slot} {H : Heap} {locs : List Loc} (C : Cx p s m args meth c cX8_readLikes (some .boolean) 5 RX8) (G : Gf E s) (X : Hx E σ s H locs) (hk_a1 : kd a1 = 2) (hl : lv_has ls 5 [(0, .ref (gB E + 1)), (1, .ref (gB E + a1))]) (h : X8_readLikes a1 σ = some r) : W p l e (RM 3) s m args below meth c H locs 0 0 (QI E below args s r.1 r.2) (F0 m 0 ls []) := by
  rw [X8_readLikes] at h
  refine lv_aload_n C.1 C.2.1 dX8_readLikes_0 rfl (lv_at hl 0 rfl) ?_
  refine lv_aload_n C.1 C.2.1 dX8_readLikes_1 rfl (lv_at hl 1 rfl) ?_
  refine gfX7 C G X (k := a1) hk_a1 1 (v := .int (σ a1 1)) rfl rfl (by decide) k_207 rfl dX8_readLikes_2 ?_
  refine lv_iconst (v := 1) C.1 C.2.1 dX8_readLikes_5 (by decide) ?_
  refine lv_isub C.1 C.2.1 dX8_readLikes_6 ?_
  obtain ⟨r7, σ7, e7, h⟩ := bnd2 h
  refine afI (r0 := r7) (σ' := σ7) X (runV C G X q_X10_needUpTo k_931 k_932 k_930 (rcX10 G X kd_1) (c_X10_needUpTo l E e7) rfl hl.1 rfl (Nat.le_of_ble_eq_true rfl) ⟨Nat.le_of_ble_eq_true rfl, Nat.le_of_ble_eq_true rfl⟩ ⟨Nat.le_of_ble_eq_true rfl, Nat.le_of_ble_eq_true rfl⟩ dX8_readLikes_7) (fun H locs X => ?_)
  refine lv_istore_n (lv' := [(2, .int r7), (0, .ref (gB E + 1)), (1, .ref (gB E + a1))]) C.1 C.2.1 dX8_readLikes_10 rfl hl (by decide) rfl (fun ls hl => ?_)
  refine lv_iload_n C.1 C.2.1 dX8_readLikes_11 rfl (lv_at hl 0 rfl) ?_
  refine lv_if_lt (tgt := 28) C.1 C.2.1 dX8_readLikes_12 (by decide) (fun c12 => ?_) (fun c12 => ?_)
  · replace h := ipos c12 h
    refine lv_iconst (v := -1) C.1 C.2.1 dX8_readLikes_28 (by decide) ?_
    exact w_X8_readLikes_29 C G X hk_a1 (lv_sub hl [1, 2, 0] rfl) h
  · replace h := ineg c12 h
    refine lv_aload_n C.1 C.2.1 dX8_readLikes_15 rfl (lv_at hl 1 rfl) ?_
    refine lv_aload_n C.1 C.2.1 dX8_readLikes_16 rfl (lv_at hl 2 rfl) ?_
    refine gfX7 C G X (k := a1) hk_a1 1 (v := .int (σ7 a1 1)) rfl rfl (by decide) k_207 rfl dX8_readLikes_17 ?_
    refine lv_iconst (v := 1) C.1 C.2.1 dX8_readLikes_20 (by decide) ?_
    refine lv_isub C.1 C.2.1 dX8_readLikes_21 ?_
    obtain ⟨r22, σ22, e22, h⟩ := bnd2 h
    refine afI (r0 := r22) (σ' := σ22) X (runV C G X q_X10_needUpTo k_931 k_932 k_930 (rcX10 G X kd_1) (c_X10_needUpTo l E e22) rfl hl.1 rfl (Nat.le_of_ble_eq_true rfl) ⟨Nat.le_of_ble_eq_true rfl, Nat.le_of_ble_eq_true rfl⟩ ⟨Nat.le_of_ble_eq_true rfl, Nat.le_of_ble_eq_true rfl⟩ dX8_readLikes_22) (fun H locs X => ?_)
    refine lv_goto (tgt := 29) C.1 C.2.1 dX8_readLikes_25 (by decide) ?_
    exact w_X8_readLikes_29 C G X hk_a1 (lv_sub hl [1, 2, 0] rfl) h

theorem c_X8_readLikes (l : Launch) (E : GE) {σ : Mem} {a1 : Nat} (hk_a1 : kd a1 = 2) {r : (Int32 × Mem)} (h : X8_readLikes a1 σ = some r) : CtI l E yX8_readLikes cX8_readLikes 5 .boolean 3 [.ref (gB E + 1), .ref (gB E + a1)] σ r.1 r.2 := by
  refine Met.ofW (cc := cX8_readLikes) (maxL := 5) (ret := (some .boolean)) (by decide) rfl ?_
  intro p e s m args below meth c s₁ B hml hv
  obtain ⟨rfl, G, X⟩ := start hv
  have C := cxof B hml
  have hl := lv_entry [.ref (gB E + 1), .ref (gB E + a1)] (n := 5) (Nat.le_of_ble_eq_true rfl)
  rw [lg_entry_eq]
  generalize (lg_sl [.ref (gB E + 1), .ref (gB E + a1)] ++ List.replicate (5 - (lg_sl [.ref (gB E + 1), .ref (gB E + a1)]).length) Slot.unset).toArray = ls at hl ⊢
  exact w_X8_readLikes C G X hk_a1 hl h

set_option maxRecDepth 20000 in
theorem w_X8_readTime {r : (Int32 × Mem)} {σ : Mem} {a1 : Nat} {ls : Array Slot} {H : Heap} {locs : List Loc} (C : Cx p s m args meth c cX8_readTime (some .boolean) 2 RX8) (G : Gf E s) (X : Hx E σ s H locs) (hk_a1 : kd a1 = 2) (hl : lv_has ls 2 [(0, .ref (gB E + 1)), (1, .ref (gB E + a1))]) (h : X8_readTime a1 σ = some r) : W p l e (RM 3) s m args below meth c H locs 0 0 (QI E below args s r.1 r.2) (F0 m 0 ls []) := by
  rw [X8_readTime] at h
  refine lv_aload_n C.1 C.2.1 dX8_readTime_0 rfl (lv_at hl 0 rfl) ?_
  refine gsT C G X (i := 23) (x := 24) (by decide) (by decide) (nm := "FOG") rfl k_979 dX8_readTime_1 ?_
  obtain ⟨r4, σ4, e4, h⟩ := bnd2 h
  refine afI (r0 := r4) (σ' := σ4) X (runV C G X q_X10_take k_914 k_915 k_925 (rcX10 G X kd_1) (c_X10_take l E e4) rfl hl.1 rfl (Nat.le_of_ble_eq_true rfl) ⟨Nat.le_of_ble_eq_true rfl, Nat.le_of_ble_eq_true rfl⟩ ⟨Nat.le_of_ble_eq_true rfl, Nat.le_of_ble_eq_true rfl⟩ dX8_readTime_4) (fun H locs X => ?_)
  refine lv_if_eq (tgt := 33) C.1 C.2.1 dX8_readTime_7 (by decide) (fun c7 => ?_) (fun c7 => ?_)
  · replace h := ipos c7 h
    refine lv_aload_n C.1 C.2.1 dX8_readTime_33 rfl (lv_at hl 0 rfl) ?_
    refine gsT C G X (i := 15) (x := 16) (by decide) (by decide) (nm := "HOUR") rfl k_981 dX8_readTime_34 ?_
    obtain ⟨r37, σ37, e37, h⟩ := bnd2 h
    refine afI (r0 := r37) (σ' := σ37) X (runV C G X q_X10_take k_914 k_915 k_925 (rcX10 G X kd_1) (c_X10_take l E e37) rfl hl.1 rfl (Nat.le_of_ble_eq_true rfl) ⟨Nat.le_of_ble_eq_true rfl, Nat.le_of_ble_eq_true rfl⟩ ⟨Nat.le_of_ble_eq_true rfl, Nat.le_of_ble_eq_true rfl⟩ dX8_readTime_37) (fun H locs X => ?_)
    refine lv_if_eq (tgt := 66) C.1 C.2.1 dX8_readTime_40 (by decide) (fun c40 => ?_) (fun c40 => ?_)
    · replace h := ipos c40 h
      refine lv_aload_n C.1 C.2.1 dX8_readTime_66 rfl (lv_at hl 0 rfl) ?_
      refine gsT C G X (i := 24) (x := 25) (by decide) (by decide) (nm := "NIGHT") rfl k_982 dX8_readTime_67 ?_
      obtain ⟨r70, σ70, e70, h⟩ := bnd2 h
      refine afI (r0 := r70) (σ' := σ70) X (runV C G X q_X10_take k_914 k_915 k_925 (rcX10 G X kd_1) (c_X10_take l E e70) rfl hl.1 rfl (Nat.le_of_ble_eq_true rfl) ⟨Nat.le_of_ble_eq_true rfl, Nat.le_of_ble_eq_true rfl⟩ ⟨Nat.le_of_ble_eq_true rfl, Nat.le_of_ble_eq_true rfl⟩ dX8_readTime_70) (fun H locs X => ?_)
      refine lv_if_eq (tgt := 100) C.1 C.2.1 dX8_readTime_73 (by decide) (fun c73 => ?_) (fun c73 => ?_)
      · replace h := ipos c73 h
        refine lv_aload_n C.1 C.2.1 dX8_readTime_100 rfl (lv_at hl 0 rfl) ?_
        obtain ⟨r101, σ101, e101, h⟩ := bnd2 h
        refine afI (r0 := r101) (σ' := σ101) X (runV C G X q_X10_wrong k_918 k_919 k_984 (rcX10 G X kd_1) (c_X10_wrong l E e101) rfl hl.1 rfl (Nat.le_of_ble_eq_true rfl) ⟨Nat.le_of_ble_eq_true rfl, Nat.le_of_ble_eq_true rfl⟩ ⟨Nat.le_of_ble_eq_true rfl, Nat.le_of_ble_eq_true rfl⟩ dX8_readTime_101) (fun H locs X => ?_)
        obtain ⟨u104, z104, h⟩ := bnd h
        rw [← Option.some.inj h]
        exact rtZ C X (gb_s z104) dX8_readTime_104
      · replace h := ineg c73 h
        refine lv_aload_n C.1 C.2.1 dX8_readTime_76 rfl (lv_at hl 1 rfl) ?_
        refine lv_aload_n C.1 C.2.1 dX8_readTime_77 rfl (lv_at hl 0 rfl) ?_
        refine lv_sipush (v := 999) C.1 C.2.1 dX8_readTime_78 (by decide) ?_
        obtain ⟨r81, σ81, e81, h⟩ := bnd2 h
        refine afI (r0 := r81) (σ' := σ81) X (runV C G X q_X10_needUpTo k_931 k_932 k_930 (rcX10 G X kd_1) (c_X10_needUpTo l E e81) rfl hl.1 rfl (Nat.le_of_ble_eq_true rfl) ⟨Nat.le_of_ble_eq_true rfl, Nat.le_of_ble_eq_true rfl⟩ ⟨Nat.le_of_ble_eq_true rfl, Nat.le_of_ble_eq_true rfl⟩ dX8_readTime_81) (fun H locs X => ?_)
        obtain ⟨σ84, e84, h⟩ := bnd h
        refine pfX7 C G X (k := a1) hk_a1 4 (x := r81) (ty := .int) rfl rfl (Nat.le_of_ble_eq_true rfl) (by decide) k_216 rfl rfl (by decide +kernel) rfl rfl dX8_readTime_84 (fun H locs X => ?_)
        replace X := pu_x e84 X
        refine lv_aload_n C.1 C.2.1 dX8_readTime_87 rfl (lv_at hl 1 rfl) ?_
        refine gfX7 C G X (k := a1) hk_a1 4 (v := .int (σ84 a1 4)) rfl rfl (by decide) k_216 rfl dX8_readTime_88 ?_
        refine lv_if_lt (tgt := 98) C.1 C.2.1 dX8_readTime_91 (by decide) (fun c91 => ?_) (fun c91 => ?_)
        · replace h := ipos c91 h
          refine lv_iconst (v := 0) C.1 C.2.1 dX8_readTime_98 (by decide) ?_
          obtain ⟨u99, z99, h⟩ := bnd h
          rw [← Option.some.inj h]
          exact rtZ C X (gb_s z99) dX8_readTime_99
        · replace h := ineg c91 h
          refine lv_iconst (v := 1) C.1 C.2.1 dX8_readTime_94 (by decide) ?_
          refine lv_goto (tgt := 99) C.1 C.2.1 dX8_readTime_95 (by decide) ?_
          obtain ⟨u99, z99, h⟩ := bnd h
          rw [← Option.some.inj h]
          exact rtZ C X (gb_s z99) dX8_readTime_99
    · replace h := ineg c40 h
      refine lv_aload_n C.1 C.2.1 dX8_readTime_43 rfl (lv_at hl 1 rfl) ?_
      refine lv_aload_n C.1 C.2.1 dX8_readTime_44 rfl (lv_at hl 0 rfl) ?_
      refine lv_bipush (v := 23) C.1 C.2.1 dX8_readTime_45 (by decide) ?_
      obtain ⟨r47, σ47, e47, h⟩ := bnd2 h
      refine afI (r0 := r47) (σ' := σ47) X (runV C G X q_X10_needUpTo k_931 k_932 k_930 (rcX10 G X kd_1) (c_X10_needUpTo l E e47) rfl hl.1 rfl (Nat.le_of_ble_eq_true rfl) ⟨Nat.le_of_ble_eq_true rfl, Nat.le_of_ble_eq_true rfl⟩ ⟨Nat.le_of_ble_eq_true rfl, Nat.le_of_ble_eq_true rfl⟩ dX8_readTime_47) (fun H locs X => ?_)
      obtain ⟨σ50, e50, h⟩ := bnd h
      refine pfX7 C G X (k := a1) hk_a1 3 (x := r47) (ty := .int) rfl rfl (Nat.le_of_ble_eq_true rfl) (by decide) k_213 rfl rfl (by decide +kernel) rfl rfl dX8_readTime_50 (fun H locs X => ?_)
      replace X := pu_x e50 X
      refine lv_aload_n C.1 C.2.1 dX8_readTime_53 rfl (lv_at hl 1 rfl) ?_
      refine gfX7 C G X (k := a1) hk_a1 3 (v := .int (σ50 a1 3)) rfl rfl (by decide) k_213 rfl dX8_readTime_54 ?_
      refine lv_if_lt (tgt := 64) C.1 C.2.1 dX8_readTime_57 (by decide) (fun c57 => ?_) (fun c57 => ?_)
      · replace h := ipos c57 h
        refine lv_iconst (v := 0) C.1 C.2.1 dX8_readTime_64 (by decide) ?_
        obtain ⟨u65, z65, h⟩ := bnd h
        rw [← Option.some.inj h]
        exact rtZ C X (gb_s z65) dX8_readTime_65
      · replace h := ineg c57 h
        refine lv_iconst (v := 1) C.1 C.2.1 dX8_readTime_60 (by decide) ?_
        refine lv_goto (tgt := 65) C.1 C.2.1 dX8_readTime_61 (by decide) ?_
        obtain ⟨u65, z65, h⟩ := bnd h
        rw [← Option.some.inj h]
        exact rtZ C X (gb_s z65) dX8_readTime_65
  · replace h := ineg c7 h
    refine lv_aload_n C.1 C.2.1 dX8_readTime_10 rfl (lv_at hl 1 rfl) ?_
    refine lv_aload_n C.1 C.2.1 dX8_readTime_11 rfl (lv_at hl 0 rfl) ?_
    refine lv_bipush (v := 100) C.1 C.2.1 dX8_readTime_12 (by decide) ?_
    obtain ⟨r14, σ14, e14, h⟩ := bnd2 h
    refine afI (r0 := r14) (σ' := σ14) X (runV C G X q_X10_needUpTo k_931 k_932 k_930 (rcX10 G X kd_1) (c_X10_needUpTo l E e14) rfl hl.1 rfl (Nat.le_of_ble_eq_true rfl) ⟨Nat.le_of_ble_eq_true rfl, Nat.le_of_ble_eq_true rfl⟩ ⟨Nat.le_of_ble_eq_true rfl, Nat.le_of_ble_eq_true rfl⟩ dX8_readTime_14) (fun H locs X => ?_)
    obtain ⟨σ17, e17, h⟩ := bnd h
    refine pfX7 C G X (k := a1) hk_a1 5 (x := r14) (ty := .int) rfl rfl (Nat.le_of_ble_eq_true rfl) (by decide) k_220 rfl rfl (by decide +kernel) rfl rfl dX8_readTime_17 (fun H locs X => ?_)
    replace X := pu_x e17 X
    refine lv_aload_n C.1 C.2.1 dX8_readTime_20 rfl (lv_at hl 1 rfl) ?_
    refine gfX7 C G X (k := a1) hk_a1 5 (v := .int (σ17 a1 5)) rfl rfl (by decide) k_220 rfl dX8_readTime_21 ?_
    refine lv_if_lt (tgt := 31) C.1 C.2.1 dX8_readTime_24 (by decide) (fun c24 => ?_) (fun c24 => ?_)
    · replace h := ipos c24 h
      refine lv_iconst (v := 0) C.1 C.2.1 dX8_readTime_31 (by decide) ?_
      obtain ⟨u32, z32, h⟩ := bnd h
      rw [← Option.some.inj h]
      exact rtZ C X (gb_s z32) dX8_readTime_32
    · replace h := ineg c24 h
      refine lv_iconst (v := 1) C.1 C.2.1 dX8_readTime_27 (by decide) ?_
      refine lv_goto (tgt := 32) C.1 C.2.1 dX8_readTime_28 (by decide) ?_
      obtain ⟨u32, z32, h⟩ := bnd h
      rw [← Option.some.inj h]
      exact rtZ C X (gb_s z32) dX8_readTime_32

theorem c_X8_readTime (l : Launch) (E : GE) {σ : Mem} {a1 : Nat} (hk_a1 : kd a1 = 2) {r : (Int32 × Mem)} (h : X8_readTime a1 σ = some r) : CtI l E yX8_readTime cX8_readTime 2 .boolean 3 [.ref (gB E + 1), .ref (gB E + a1)] σ r.1 r.2 := by
  refine Met.ofW (cc := cX8_readTime) (maxL := 2) (ret := (some .boolean)) (by decide) rfl ?_
  intro p e s m args below meth c s₁ B hml hv
  obtain ⟨rfl, G, X⟩ := start hv
  have C := cxof B hml
  have hl := lv_entry [.ref (gB E + 1), .ref (gB E + a1)] (n := 2) (Nat.le_of_ble_eq_true rfl)
  rw [lg_entry_eq]
  generalize (lg_sl [.ref (gB E + 1), .ref (gB E + a1)] ++ List.replicate (2 - (lg_sl [.ref (gB E + 1), .ref (gB E + a1)]).length) Slot.unset).toArray = ls at hl ⊢
  exact w_X8_readTime C G X hk_a1 hl h

set_option maxRecDepth 20000 in
theorem w_X8_readLine_50 {r : (Int32 × Mem)} {σ : Mem} {a1 : Nat} {ls : Array Slot} {H : Heap} {locs : List Loc} (C : Cx p s m args meth c cX8_readLine (some .boolean) 2 RX8) (G : Gf E s) (X : Hx E σ s H locs) (hk_a1 : kd a1 = 2) (hl : lv_has ls 2 [(0, .ref (gB E + 1)), (1, .ref (gB E + a1))]) (h : X8_readLine_50 a1 σ = some r) : W p l e (RM 5) s m args below meth c H locs 0 0 (QI E below args s r.1 r.2) (F0 m 50 ls []) := by
  rw [X8_readLine_50] at h
  refine lv_aload_n C.1 C.2.1 dX8_readLine_50 rfl (lv_at hl 0 rfl) ?_
  refine gsT C G X (i := 22) (x := 23) (by decide) (by decide) (nm := "WAY") rfl k_962 dX8_readLine_51 ?_
  obtain ⟨r54, σ54, e54, h⟩ := bnd2 h
  refine afI (r0 := r54) (σ' := σ54) X (runV C G X q_X10_take k_914 k_915 k_925 (rcX10 G X kd_1) (c_X10_take l E e54) rfl hl.1 rfl (Nat.le_of_ble_eq_true rfl) ⟨Nat.le_of_ble_eq_true rfl, Nat.le_of_ble_eq_true rfl⟩ ⟨Nat.le_of_ble_eq_true rfl, Nat.le_of_ble_eq_true rfl⟩ dX8_readLine_54) (fun H locs X => ?_)
  refine lv_if_eq (tgt := 66) C.1 C.2.1 dX8_readLine_57 (by decide) (fun c57 => ?_) (fun c57 => ?_)
  · replace h := ipos c57 h
    refine lv_aload_n C.1 C.2.1 dX8_readLine_66 rfl (lv_at hl 0 rfl) ?_
    refine gsT C G X (i := 14) (x := 15) (by decide) (by decide) (nm := "LIKES") rfl k_971 dX8_readLine_67 ?_
    obtain ⟨r70, σ70, e70, h⟩ := bnd2 h
    refine afI (r0 := r70) (σ' := σ70) X (runV C G X q_X10_take k_914 k_915 k_925 (rcX10 G X kd_1) (c_X10_take l E e70) rfl hl.1 rfl (Nat.le_of_ble_eq_true rfl) ⟨Nat.le_of_ble_eq_true rfl, Nat.le_of_ble_eq_true rfl⟩ ⟨Nat.le_of_ble_eq_true rfl, Nat.le_of_ble_eq_true rfl⟩ dX8_readLine_70) (fun H locs X => ?_)
    refine lv_if_eq (tgt := 82) C.1 C.2.1 dX8_readLine_73 (by decide) (fun c73 => ?_) (fun c73 => ?_)
    · replace h := ipos c73 h
      refine lv_aload_n C.1 C.2.1 dX8_readLine_82 rfl (lv_at hl 0 rfl) ?_
      refine lv_aload_n C.1 C.2.1 dX8_readLine_83 rfl (lv_at hl 1 rfl) ?_
      obtain ⟨r84, σ84, e84, h⟩ := bnd2 h
      refine afI (r0 := r84) (σ' := σ84) X (runS C G X q_X8_readTime k_977 k_976 (c_X8_readTime l E hk_a1 e84) rfl hl.1 rfl (Nat.le_of_ble_eq_true rfl) ⟨Nat.le_of_ble_eq_true rfl, Nat.le_of_ble_eq_true rfl⟩ ⟨Nat.le_of_ble_eq_true rfl, Nat.le_of_ble_eq_true rfl⟩ dX8_readLine_84) (fun H locs X => ?_)
      obtain ⟨u87, z87, h⟩ := bnd h
      rw [← Option.some.inj h]
      exact rtZ C X (gb_s z87) dX8_readLine_87
    · replace h := ineg c73 h
      refine lv_aload_n C.1 C.2.1 dX8_readLine_76 rfl (lv_at hl 0 rfl) ?_
      refine lv_aload_n C.1 C.2.1 dX8_readLine_77 rfl (lv_at hl 1 rfl) ?_
      obtain ⟨r78, σ78, e78, h⟩ := bnd2 h
      refine afI (r0 := r78) (σ' := σ78) X (runS C G X q_X8_readLikes k_973 k_972 (c_X8_readLikes l E hk_a1 e78) rfl hl.1 rfl (Nat.le_of_ble_eq_true rfl) ⟨Nat.le_of_ble_eq_true rfl, Nat.le_of_ble_eq_true rfl⟩ ⟨Nat.le_of_ble_eq_true rfl, Nat.le_of_ble_eq_true rfl⟩ dX8_readLine_78) (fun H locs X => ?_)
      obtain ⟨u81, z81, h⟩ := bnd h
      rw [← Option.some.inj h]
      exact rtZ C X (gb_s z81) dX8_readLine_81
  · replace h := ineg c57 h
    refine lv_aload_n C.1 C.2.1 dX8_readLine_60 rfl (lv_at hl 0 rfl) ?_
    refine lv_aload_n C.1 C.2.1 dX8_readLine_61 rfl (lv_at hl 1 rfl) ?_
    obtain ⟨r62, σ62, e62, h⟩ := bnd2 h
    refine afI (r0 := r62) (σ' := σ62) X (runS C G X q_X8_readWay k_965 k_964 (c_X8_readWay l E hk_a1 e62) rfl hl.1 rfl (Nat.le_of_ble_eq_true rfl) ⟨Nat.le_of_ble_eq_true rfl, Nat.le_of_ble_eq_true rfl⟩ ⟨Nat.le_of_ble_eq_true rfl, Nat.le_of_ble_eq_true rfl⟩ dX8_readLine_62) (fun H locs X => ?_)
    obtain ⟨u65, z65, h⟩ := bnd h
    rw [← Option.some.inj h]
    exact rtZ C X (gb_s z65) dX8_readLine_65

set_option maxRecDepth 20000 in
theorem w_X8_readLine_25 {r : (Int32 × Mem)} {σ : Mem} {a1 : Nat} {ls : Array Slot} {H : Heap} {locs : List Loc} (C : Cx p s m args meth c cX8_readLine (some .boolean) 2 RX8) (G : Gf E s) (X : Hx E σ s H locs) (hk_a1 : kd a1 = 2) (hl : lv_has ls 2 [(0, .ref (gB E + 1)), (1, .ref (gB E + a1))]) (h : X8_readLine_25 a1 σ = some r) : W p l e (RM 5) s m args below meth c H locs 0 0 (QI E below args s r.1 r.2) (F0 m 25 ls []) := by
  rw [X8_readLine_25] at h
  refine lv_aload_n C.1 C.2.1 dX8_readLine_25 rfl (lv_at hl 1 rfl) ?_
  refine gfX7 C G X (k := a1) hk_a1 1 (v := .int (σ a1 1)) rfl rfl (by decide) k_207 rfl dX8_readLine_26 ?_
  refine lv_bipush (v := 6) C.1 C.2.1 dX8_readLine_29 (by decide) ?_
  refine lv_icmp_ge (tgt := 50) C.1 C.2.1 dX8_readLine_31 (by decide) (fun c31 => ?_) (fun c31 => ?_)
  · replace h := ipos c31 h
    exact w_X8_readLine_50 C G X hk_a1 (lv_sub hl [0, 1] rfl) h
  · replace h := ineg c31 h
    refine lv_aload_n C.1 C.2.1 dX8_readLine_34 rfl (lv_at hl 0 rfl) ?_
    refine gsT C G X (i := 10) (x := 11) (by decide) (by decide) (nm := "WALKER") rfl k_940 dX8_readLine_35 ?_
    obtain ⟨r38, σ38, e38, h⟩ := bnd2 h
    refine afI (r0 := r38) (σ' := σ38) X (runV C G X q_X10_take k_914 k_915 k_925 (rcX10 G X kd_1) (c_X10_take l E e38) rfl hl.1 rfl (Nat.le_of_ble_eq_true rfl) ⟨Nat.le_of_ble_eq_true rfl, Nat.le_of_ble_eq_true rfl⟩ ⟨Nat.le_of_ble_eq_true rfl, Nat.le_of_ble_eq_true rfl⟩ dX8_readLine_38) (fun H locs X => ?_)
    refine lv_if_eq (tgt := 50) C.1 C.2.1 dX8_readLine_41 (by decide) (fun c41 => ?_) (fun c41 => ?_)
    · replace h := ipos c41 h
      exact w_X8_readLine_50 C G X hk_a1 (lv_sub hl [0, 1] rfl) h
    · replace h := ineg c41 h
      refine lv_aload_n C.1 C.2.1 dX8_readLine_44 rfl (lv_at hl 0 rfl) ?_
      refine lv_aload_n C.1 C.2.1 dX8_readLine_45 rfl (lv_at hl 1 rfl) ?_
      obtain ⟨r46, σ46, e46, h⟩ := bnd2 h
      refine afI (r0 := r46) (σ' := σ46) X (runS C G X q_X8_readWalker k_942 k_941 (c_X8_readWalker l E hk_a1 e46) rfl hl.1 rfl (Nat.le_of_ble_eq_true rfl) ⟨Nat.le_of_ble_eq_true rfl, Nat.le_of_ble_eq_true rfl⟩ ⟨Nat.le_of_ble_eq_true rfl, Nat.le_of_ble_eq_true rfl⟩ dX8_readLine_46) (fun H locs X => ?_)
      obtain ⟨u49, z49, h⟩ := bnd h
      rw [← Option.some.inj h]
      exact rtZ C X (gb_s z49) dX8_readLine_49

set_option maxRecDepth 20000 in
theorem w_X8_readLine {r : (Int32 × Mem)} {σ : Mem} {a1 : Nat} {ls : Array Slot} {H : Heap} {locs : List Loc} (C : Cx p s m args meth c cX8_readLine (some .boolean) 2 RX8) (G : Gf E s) (X : Hx E σ s H locs) (hk_a1 : kd a1 = 2) (hl : lv_has ls 2 [(0, .ref (gB E + 1)), (1, .ref (gB E + a1))]) (h : X8_readLine a1 σ = some r) : W p l e (RM 5) s m args below meth c H locs 0 0 (QI E below args s r.1 r.2) (F0 m 0 ls []) := by
  rw [X8_readLine] at h
  refine lv_aload_n C.1 C.2.1 dX8_readLine_0 rfl (lv_at hl 1 rfl) ?_
  refine gfX7 C G X (k := a1) hk_a1 0 (v := .int (σ a1 0)) rfl rfl (by decide) k_201 rfl dX8_readLine_1 ?_
  refine lv_bipush (v := 9) C.1 C.2.1 dX8_readLine_4 (by decide) ?_
  refine lv_icmp_ge (tgt := 25) C.1 C.2.1 dX8_readLine_6 (by decide) (fun c6 => ?_) (fun c6 => ?_)
  · replace h := ipos c6 h
    exact w_X8_readLine_25 C G X hk_a1 (lv_sub hl [0, 1] rfl) h
  · replace h := ineg c6 h
    refine lv_aload_n C.1 C.2.1 dX8_readLine_9 rfl (lv_at hl 0 rfl) ?_
    refine gsT C G X (i := 9) (x := 10) (by decide) (by decide) (nm := "PANE") rfl k_924 dX8_readLine_10 ?_
    obtain ⟨r13, σ13, e13, h⟩ := bnd2 h
    refine afI (r0 := r13) (σ' := σ13) X (runV C G X q_X10_take k_914 k_915 k_925 (rcX10 G X kd_1) (c_X10_take l E e13) rfl hl.1 rfl (Nat.le_of_ble_eq_true rfl) ⟨Nat.le_of_ble_eq_true rfl, Nat.le_of_ble_eq_true rfl⟩ ⟨Nat.le_of_ble_eq_true rfl, Nat.le_of_ble_eq_true rfl⟩ dX8_readLine_13) (fun H locs X => ?_)
    refine lv_if_eq (tgt := 25) C.1 C.2.1 dX8_readLine_16 (by decide) (fun c16 => ?_) (fun c16 => ?_)
    · replace h := ipos c16 h
      exact w_X8_readLine_25 C G X hk_a1 (lv_sub hl [0, 1] rfl) h
    · replace h := ineg c16 h
      refine lv_aload_n C.1 C.2.1 dX8_readLine_19 rfl (lv_at hl 0 rfl) ?_
      refine lv_aload_n C.1 C.2.1 dX8_readLine_20 rfl (lv_at hl 1 rfl) ?_
      obtain ⟨r21, σ21, e21, h⟩ := bnd2 h
      refine afI (r0 := r21) (σ' := σ21) X (runS C G X q_X8_readPane k_927 k_926 (c_X8_readPane l E hk_a1 e21) rfl hl.1 rfl (Nat.le_of_ble_eq_true rfl) ⟨Nat.le_of_ble_eq_true rfl, Nat.le_of_ble_eq_true rfl⟩ ⟨Nat.le_of_ble_eq_true rfl, Nat.le_of_ble_eq_true rfl⟩ dX8_readLine_21) (fun H locs X => ?_)
      obtain ⟨u24, z24, h⟩ := bnd h
      rw [← Option.some.inj h]
      exact rtZ C X (gb_s z24) dX8_readLine_24

theorem c_X8_readLine (l : Launch) (E : GE) {σ : Mem} {a1 : Nat} (hk_a1 : kd a1 = 2) {r : (Int32 × Mem)} (h : X8_readLine a1 σ = some r) : CtI l E yX8_readLine cX8_readLine 2 .boolean 5 [.ref (gB E + 1), .ref (gB E + a1)] σ r.1 r.2 := by
  refine Met.ofW (cc := cX8_readLine) (maxL := 2) (ret := (some .boolean)) (by decide) rfl ?_
  intro p e s m args below meth c s₁ B hml hv
  obtain ⟨rfl, G, X⟩ := start hv
  have C := cxof B hml
  have hl := lv_entry [.ref (gB E + 1), .ref (gB E + a1)] (n := 2) (Nat.le_of_ble_eq_true rfl)
  rw [lg_entry_eq]
  generalize (lg_sl [.ref (gB E + 1), .ref (gB E + a1)] ++ List.replicate (2 - (lg_sl [.ref (gB E + 1), .ref (gB E + a1)]).length) Slot.unset).toArray = ls at hl ⊢
  exact w_X8_readLine C G X hk_a1 hl h

set_option maxRecDepth 20000 in
theorem w_X8_readAll_34 {r : (Int32 × Mem)} {σ : Mem} {ls : Array Slot} {H : Heap} {locs : List Loc} (C : Cx p s m args meth c cX8_readAll (some .boolean) 3 RX8) (G : Gf E s) (X : Hx E σ s H locs) (hl : lv_has ls 3 [(0, .ref (gB E + 1))]) (h : X8_readAll_34 σ = some r) : W p l e (RM 6) s m args below meth c H locs 0 0 (QI E below args s r.1 r.2) (F0 m 34 ls []) := by
  rw [X8_readAll_34] at h
  refine lv_aload_n C.1 C.2.1 dX8_readAll_34 rfl (lv_at hl 0 rfl) ?_
  refine gfX10 C G X (k := 1) kd_1 6 (v := .int (σ 1 6)) rfl rfl (by decide) k_172 rfl dX8_readAll_35 ?_
  refine lv_iconst (v := -1) C.1 C.2.1 dX8_readAll_38 (by decide) ?_
  refine lv_icmp_ne (tgt := 46) C.1 C.2.1 dX8_readAll_39 (by decide) (fun c39 => ?_) (fun c39 => ?_)
  · replace h := ineg c39 h
    refine lv_iconst (v := 0) C.1 C.2.1 dX8_readAll_46 (by decide) ?_
    obtain ⟨u47, z47, h⟩ := bnd h
    rw [← Option.some.inj h]
    exact rtZ C X (gb_s z47) dX8_readAll_47
  · replace h := ipos c39 h
    refine lv_iconst (v := 1) C.1 C.2.1 dX8_readAll_42 (by decide) ?_
    refine lv_goto (tgt := 47) C.1 C.2.1 dX8_readAll_43 (by decide) ?_
    obtain ⟨u47, z47, h⟩ := bnd h
    rw [← Option.some.inj h]
    exact rtZ C X (gb_s z47) dX8_readAll_47

set_option maxRecDepth 20000 in
theorem w_X8_readAll_2 {r : (Int32 × Mem)} (C : Cx p s m args meth c cX8_readAll (some .boolean) 3 RX8) (G : Gf E s) : ∀ (f : Nat) {a1 : Nat} {x2 : Int32} {σ : Mem} {ls : Array Slot} {H : Heap} {locs : List Loc}, Hx E σ s H locs → kd a1 = 2 → lv_has ls 3 [(0, .ref (gB E + 1)), (1, .ref (gB E + a1)), (2, .int x2)] → X8_readAll_2 f a1 x2 σ = some r → W p l e (RM 6) s m args below meth c H locs 0 0 (QI E below args s r.1 r.2) (F0 m 2 ls []) := by
  intro f
  induction f with
  | zero =>
    intro a1 x2 σ ls H locs X hk_a1 hl h
    rw [X8_readAll_2] at h
    cases h
  | succ f ih =>
    intro a1 x2 σ ls H locs X hk_a1 hl h
    rw [X8_readAll_2] at h
    refine lv_iload_n C.1 C.2.1 dX8_readAll_2 rfl (lv_at hl 2 rfl) ?_
    refine lv_bipush (v := 14) C.1 C.2.1 dX8_readAll_3 (by decide) ?_
    refine lv_icmp_gt (tgt := 34) C.1 C.2.1 dX8_readAll_5 (by decide) (fun c5 => ?_) (fun c5 => ?_)
    · replace h := ipos c5 h
      exact w_X8_readAll_34 C G X (lv_sub hl [0] rfl) h
    · replace h := ineg c5 h
      refine lv_aload_n C.1 C.2.1 dX8_readAll_8 rfl (lv_at hl 0 rfl) ?_
      refine lv_iload_n C.1 C.2.1 dX8_readAll_9 rfl (lv_at hl 2 rfl) ?_
      refine lv_bipush (v := 14) C.1 C.2.1 dX8_readAll_10 (by decide) ?_
      obtain ⟨r12, σ12, e12, h⟩ := bnd2 h
      refine afI (r0 := r12) (σ' := σ12) X (runV C G X q_X10_hasLine k_896 k_897 k_895 (rcX10 G X kd_1) (c_X10_hasLine l E e12) rfl hl.1 rfl (Nat.le_of_ble_eq_true rfl) ⟨Nat.le_of_ble_eq_true rfl, Nat.le_of_ble_eq_true rfl⟩ ⟨Nat.le_of_ble_eq_true rfl, Nat.le_of_ble_eq_true rfl⟩ dX8_readAll_12) (fun H locs X => ?_)
      refine lv_if_eq (tgt := 34) C.1 C.2.1 dX8_readAll_15 (by decide) (fun c15 => ?_) (fun c15 => ?_)
      · replace h := ipos c15 h
        exact w_X8_readAll_34 C G X (lv_sub hl [0] rfl) h
      · replace h := ineg c15 h
        refine lv_aload_n C.1 C.2.1 dX8_readAll_18 rfl (lv_at hl 0 rfl) ?_
        refine lv_aload_n C.1 C.2.1 dX8_readAll_19 rfl (lv_at hl 1 rfl) ?_
        obtain ⟨r20, σ20, e20, h⟩ := bnd2 h
        refine afI (r0 := r20) (σ' := σ20) X (runS C G X q_X8_readLine k_922 k_921 (c_X8_readLine l E hk_a1 e20) rfl hl.1 rfl (Nat.le_of_ble_eq_true rfl) ⟨Nat.le_of_ble_eq_true rfl, Nat.le_of_ble_eq_true rfl⟩ ⟨Nat.le_of_ble_eq_true rfl, Nat.le_of_ble_eq_true rfl⟩ dX8_readAll_20) (fun H locs X => ?_)
        refine lv_if_ne (tgt := 28) C.1 C.2.1 dX8_readAll_23 (by decide) (fun c23 => ?_) (fun c23 => ?_)
        · replace h := ineg c23 h
          refine lv_iinc (v := (x2 + 1)) (lv' := [(2, .int (x2 + 1)), (0, .ref (gB E + 1)), (1, .ref (gB E + a1))]) C.1 C.2.1 dX8_readAll_28 hl (k := 2) rfl rfl (by decide) rfl (fun ls hl => ?_)
          refine lv_goto (tgt := 2) C.1 C.2.1 dX8_readAll_31 (by decide) ?_
          exact ih X hk_a1 (lv_sub hl [1, 2, 0] rfl) h
        · replace h := ipos c23 h
          refine lv_iconst (v := 0) C.1 C.2.1 dX8_readAll_26 (by decide) ?_
          obtain ⟨u27, z27, h⟩ := bnd h
          rw [← Option.some.inj h]
          exact rtZ C X (gb_s z27) dX8_readAll_27

set_option maxRecDepth 20000 in
theorem w_X8_readAll {r : (Int32 × Mem)} {σ : Mem} {a1 : Nat} {ls : Array Slot} {H : Heap} {locs : List Loc} (C : Cx p s m args meth c cX8_readAll (some .boolean) 3 RX8) (G : Gf E s) (X : Hx E σ s H locs) (hk_a1 : kd a1 = 2) (hl : lv_has ls 3 [(0, .ref (gB E + 1)), (1, .ref (gB E + a1))]) (h : X8_readAll a1 σ = some r) : W p l e (RM 6) s m args below meth c H locs 0 0 (QI E below args s r.1 r.2) (F0 m 0 ls []) := by
  rw [X8_readAll] at h
  refine lv_iconst (v := 0) C.1 C.2.1 dX8_readAll_0 (by decide) ?_
  refine lv_istore_n (lv' := [(2, .int (0 : Int32)), (0, .ref (gB E + 1)), (1, .ref (gB E + a1))]) C.1 C.2.1 dX8_readAll_1 rfl hl (by decide) rfl (fun ls hl => ?_)
  exact w_X8_readAll_2 C G FU X hk_a1 (lv_sub hl [1, 2, 0] rfl) h

theorem c_X8_readAll (l : Launch) (E : GE) {σ : Mem} {a1 : Nat} (hk_a1 : kd a1 = 2) {r : (Int32 × Mem)} (h : X8_readAll a1 σ = some r) : CtI l E yX8_readAll cX8_readAll 3 .boolean 6 [.ref (gB E + 1), .ref (gB E + a1)] σ r.1 r.2 := by
  refine Met.ofW (cc := cX8_readAll) (maxL := 3) (ret := (some .boolean)) (by decide) rfl ?_
  intro p e s m args below meth c s₁ B hml hv
  obtain ⟨rfl, G, X⟩ := start hv
  have C := cxof B hml
  have hl := lv_entry [.ref (gB E + 1), .ref (gB E + a1)] (n := 3) (Nat.le_of_ble_eq_true rfl)
  rw [lg_entry_eq]
  generalize (lg_sl [.ref (gB E + 1), .ref (gB E + a1)] ++ List.replicate (3 - (lg_sl [.ref (gB E + 1), .ref (gB E + a1)]).length) Slot.unset).toArray = ls at hl ⊢
  exact w_X8_readAll C G X hk_a1 hl h

set_option maxRecDepth 20000 in
theorem w_X2_forget {r : Mem} {σ : Mem} {ls : Array Slot} {H : Heap} {locs : List Loc} (C : Cx p s m args meth c cX2_forget none 1 RX2) (G : Gf E s) (X : Hx E σ s H locs) (hl : lv_has ls 1 [(0, .ref (gB E + 111))]) (h : X2_forget σ = some r) : W p l e (RM 1) s m args below meth c H locs 0 0 (QV E below args s r) (F0 m 0 ls []) := by
  rw [X2_forget] at h
  refine lv_aload_n C.1 C.2.1 dX2_forget_0 rfl (lv_at hl 0 rfl) ?_
  refine lv_iconst (v := 0) C.1 C.2.1 dX2_forget_1 (by decide) ?_
  obtain ⟨σ2, e2, h⟩ := bnd h
  refine pfX2 C G X (k := 111) kd_111 2 (x := (0 : Int32)) (ty := .int) rfl rfl (Nat.le_of_ble_eq_true rfl) (by decide) k_351 rfl rfl (by decide +kernel) rfl rfl dX2_forget_2 (fun H locs X => ?_)
  replace X := pu_x e2 X
  rw [← Option.some.inj h]
  exact rtV C X dX2_forget_5

theorem c_X2_forget (l : Launch) (E : GE) {σ : Mem} {r : Mem} (h : X2_forget σ = some r) : CtV l E yX2_forget cX2_forget 1 1 [.ref (gB E + 111)] σ r := by
  refine Met.ofW (cc := cX2_forget) (maxL := 1) (ret := none) (by decide) rfl ?_
  intro p e s m args below meth c s₁ B hml hv
  obtain ⟨rfl, G, X⟩ := start hv
  have C := cxof B hml
  have hl := lv_entry [.ref (gB E + 111)] (n := 1) (Nat.le_of_ble_eq_true rfl)
  rw [lg_entry_eq]
  generalize (lg_sl [.ref (gB E + 111)] ++ List.replicate (1 - (lg_sl [.ref (gB E + 111)]).length) Slot.unset).toArray = ls at hl ⊢
  exact w_X2_forget C G X hl h

set_option maxRecDepth 20000 in
theorem w_X11_street {r : ((Int32 ⊕ Nat) × Mem)} {σ : Mem} {ls : Array Slot} {H : Heap} {locs : List Loc} (C : Cx p s m args meth c cX11_street (some .int) 1 RX11) (G : Gf E s) (T0 : ∀ x ∈ c.exceptionTable.toList, False) (hT : l.stackTraces = false) (X : Hx E σ s H locs) (hl : lv_has ls 1 [(0, .ref (gB E + 0))]) (h : X11_street σ = some r) : W p l e (RX 12 1) s m args below meth c H locs 0 0 (QX E below args s 1 r.1 r.2) (F0 m 0 ls []) := by
  rw [X11_street] at h
  refine lv_aload_n C.1 C.2.1 dX11_street_0 rfl (lv_at hl 0 rfl) ?_
  refine gfX11 C G X (k := 0) kd_0 0 (v := .ref (gB E + 1)) rfl rfl (by decide) k_405 rfl dX11_street_1 ?_
  obtain ⟨σ4, e4, h⟩ := bnd h
  refine afV X (runV C G X q_X10_scan k_804 k_805 k_803 (rcX10 G X kd_1) (c_X10_scan l E e4) rfl hl.1 rfl (Nat.le_of_ble_eq_true rfl) ⟨Nat.le_of_ble_eq_true rfl, Nat.le_of_ble_eq_true rfl⟩ ⟨Nat.le_of_ble_eq_true rfl, Nat.le_of_ble_eq_true rfl⟩ dX11_street_4) (fun H locs X => ?_)
  refine lv_aload_n C.1 C.2.1 dX11_street_7 rfl (lv_at hl 0 rfl) ?_
  refine gfX11 C G X (k := 0) kd_0 2 (v := .ref (gB E + 30)) rfl rfl (by decide) k_407 rfl dX11_street_8 ?_
  refine lv_aload_n C.1 C.2.1 dX11_street_11 rfl (lv_at hl 0 rfl) ?_
  refine gfX11 C G X (k := 0) kd_0 1 (v := .ref (gB E + 9)) rfl rfl (by decide) k_406 rfl dX11_street_12 ?_
  obtain ⟨σ15, e15, h⟩ := bnd h
  refine afV X (runV C G X q_X7_copyFrom k_471 k_472 k_759 (rcX7 G X kd_30) (c_X7_copyFrom l E kd_30 kd_9 e15) rfl hl.1 rfl (Nat.le_of_ble_eq_true rfl) ⟨Nat.le_of_ble_eq_true rfl, Nat.le_of_ble_eq_true rfl⟩ ⟨Nat.le_of_ble_eq_true rfl, Nat.le_of_ble_eq_true rfl⟩ dX11_street_15) (fun H locs X => ?_)
  refine lv_aload_n C.1 C.2.1 dX11_street_18 rfl (lv_at hl 0 rfl) ?_
  refine gfX11 C G X (k := 0) kd_0 0 (v := .ref (gB E + 1)) rfl rfl (by decide) k_405 rfl dX11_street_19 ?_
  refine lv_aload_n C.1 C.2.1 dX11_street_22 rfl (lv_at hl 0 rfl) ?_
  refine gfX11 C G X (k := 0) kd_0 2 (v := .ref (gB E + 30)) rfl rfl (by decide) k_407 rfl dX11_street_23 ?_
  obtain ⟨r26, σ26, e26, h⟩ := bnd2 h
  refine afI (r0 := r26) (σ' := σ26) X (runS C G X q_X8_readAll k_893 k_892 (c_X8_readAll l E kd_30 e26) rfl hl.1 rfl (Nat.le_of_ble_eq_true rfl) ⟨Nat.le_of_ble_eq_true rfl, Nat.le_of_ble_eq_true rfl⟩ ⟨Nat.le_of_ble_eq_true rfl, Nat.le_of_ble_eq_true rfl⟩ dX11_street_26) (fun H locs X => ?_)
  refine lv_if_ne (tgt := 42) C.1 C.2.1 dX11_street_29 (by decide) (fun c29 => ?_) (fun c29 => ?_)
  · replace h := ineg c29 h
    refine lv_aload_n C.1 C.2.1 dX11_street_42 rfl (lv_at hl 0 rfl) ?_
    refine gfX11 C G X (k := 0) kd_0 1 (v := .ref (gB E + 9)) rfl rfl (by decide) k_406 rfl dX11_street_43 ?_
    refine gfX7 C G X (k := 9) kd_9 2 (v := .int (σ26 9 2)) rfl rfl (by decide) k_210 rfl dX11_street_46 ?_
    refine lv_bipush (v := 12) C.1 C.2.1 dX11_street_49 (by decide) ?_
    refine lv_icmp_lt (tgt := 64) C.1 C.2.1 dX11_street_51 (by decide) (fun c51 => ?_) (fun c51 => ?_)
    · replace h := ipos c51 h
      refine lv_aload_n C.1 C.2.1 dX11_street_64 rfl (lv_at hl 0 rfl) ?_
      refine gfX11 C G X (k := 0) kd_0 1 (v := .ref (gB E + 9)) rfl rfl (by decide) k_406 rfl dX11_street_65 ?_
      refine lv_aload_n C.1 C.2.1 dX11_street_68 rfl (lv_at hl 0 rfl) ?_
      refine gfX11 C G X (k := 0) kd_0 2 (v := .ref (gB E + 30)) rfl rfl (by decide) k_407 rfl dX11_street_69 ?_
      obtain ⟨σ72, e72, h⟩ := bnd h
      refine afV X (runV C G X q_X7_copyFrom k_471 k_472 k_759 (rcX7 G X kd_9) (c_X7_copyFrom l E kd_9 kd_30 e72) rfl hl.1 rfl (Nat.le_of_ble_eq_true rfl) ⟨Nat.le_of_ble_eq_true rfl, Nat.le_of_ble_eq_true rfl⟩ ⟨Nat.le_of_ble_eq_true rfl, Nat.le_of_ble_eq_true rfl⟩ dX11_street_72) (fun H locs X => ?_)
      refine lv_aload_n C.1 C.2.1 dX11_street_75 rfl (lv_at hl 0 rfl) ?_
      refine gfX11 C G X (k := 0) kd_0 1 (v := .ref (gB E + 9)) rfl rfl (by decide) k_406 rfl dX11_street_76 ?_
      refine lv_dup C.1 C.2.1 dX11_street_79 rfl ?_
      refine gfX7 C G X (k := 9) kd_9 2 (v := .int (σ72 9 2)) rfl rfl (by decide) k_210 rfl dX11_street_80 ?_
      refine lv_iconst (v := 1) C.1 C.2.1 dX11_street_83 (by decide) ?_
      refine lv_iadd C.1 C.2.1 dX11_street_84 ?_
      obtain ⟨σ85, e85, h⟩ := bnd h
      refine pfX7 C G X (k := 9) kd_9 2 (x := ((σ72 9 2) + (1 : Int32))) (ty := .int) rfl rfl (Nat.le_of_ble_eq_true rfl) (by decide) k_210 rfl rfl (by decide +kernel) rfl rfl dX11_street_85 (fun H locs X => ?_)
      replace X := pu_x e85 X
      refine lv_aload_n C.1 C.2.1 dX11_street_88 rfl (lv_at hl 0 rfl) ?_
      refine gfX11 C G X (k := 0) kd_0 8 (v := .ref (gB E + 111)) rfl rfl (by decide) k_413 rfl dX11_street_89 ?_
      obtain ⟨σ92, e92, h⟩ := bnd h
      refine afV X (runV C G X q_X2_forget k_770 k_771 k_769 (rcX2 G X kd_111) (c_X2_forget l E e92) rfl hl.1 rfl (Nat.le_of_ble_eq_true rfl) ⟨Nat.le_of_ble_eq_true rfl, Nat.le_of_ble_eq_true rfl⟩ ⟨Nat.le_of_ble_eq_true rfl, Nat.le_of_ble_eq_true rfl⟩ dX11_street_92) (fun H locs X => ?_)
      refine lv_aload_n C.1 C.2.1 dX11_street_95 rfl (lv_at hl 0 rfl) ?_
      refine gfX11 C G X (k := 0) kd_0 1 (v := .ref (gB E + 9)) rfl rfl (by decide) k_406 rfl dX11_street_96 ?_
      refine gfX7 C G X (k := 9) kd_9 2 (v := .int (σ92 9 2)) rfl rfl (by decide) k_210 rfl dX11_street_99 ?_
      refine W.widen (k := 1) (n := 6) (Nat.le_of_ble_eq_true rfl) (Nat.le_of_ble_eq_true rfl) ?_
      rw [← Option.some.inj h]
      exact vx_ret (rtxI C X dX11_street_102)
    · replace h := ineg c51 h
      rw [← Option.some.inj h]
      exact thS C G X T0 hT (x := 5) (cls := "java/lang/UnsupportedOperationException") (text := "there are twelve texts") (ik := 101) (is := 103) (ic := 105) rfl k_1055 k_127 (by decide +kernel) (by decide +kernel) hl.1 dX11_street_54 dX11_street_57 dX11_street_58 dX11_street_60 dX11_street_63 (Nat.le_of_ble_eq_true rfl) (Nat.le_of_ble_eq_true rfl) (Nat.le_of_ble_eq_true rfl) (Nat.le_of_ble_eq_true rfl)
  · replace h := ipos c29 h
    rw [← Option.some.inj h]
    exact thS C G X T0 hT (x := 2) (cls := "java/lang/IllegalArgumentException") (text := "the text of the street is wrong") (ik := 91) (is := 93) (ic := 95) rfl k_985 k_126 (by decide +kernel) (by decide +kernel) hl.1 dX11_street_32 dX11_street_35 dX11_street_36 dX11_street_38 dX11_street_41 (Nat.le_of_ble_eq_true rfl) (Nat.le_of_ble_eq_true rfl) (Nat.le_of_ble_eq_true rfl) (Nat.le_of_ble_eq_true rfl)

theorem c_X11_street (l : Launch) (E : GE) (hT : l.stackTraces = false) {σ : Mem} {r : ((Int32 ⊕ Nat) × Mem)} (h : X11_street σ = some r) : CtX l E yX11_street cX11_street 1 .int 12 1 [.ref (gB E + 0)] σ r.1 r.2 := by
  refine vx_ofW (cc := cX11_street) (maxL := 1) (ret := (some .int)) (by decide) rfl ?_
  intro p e s m args below meth c s₁ B hml T0 hv
  obtain ⟨rfl, G, X⟩ := start hv
  have C := cxof B hml
  have hl := lv_entry [.ref (gB E + 0)] (n := 1) (Nat.le_of_ble_eq_true rfl)
  rw [lg_entry_eq]
  generalize (lg_sl [.ref (gB E + 0)] ++ List.replicate (1 - (lg_sl [.ref (gB E + 0)]).length) Slot.unset).toArray = ls at hl ⊢
  exact w_X11_street C G T0 hT X hl h

set_option maxRecDepth 20000 in
theorem w_X3_begin {r : Mem} {σ : Mem} {a0 : Nat} {ls : Array Slot} {H : Heap} {locs : List Loc} (C : Cx p s m args meth c cX3_begin none 1 RX3) (G : Gf E s) (X : Hx E σ s H locs) (hk_a0 : kd a0 = 3) (hl : lv_has ls 1 [(0, .ref (gB E + a0))]) (h : X3_begin a0 σ = some r) : W p l e (RM 1) s m args below meth c H locs 0 0 (QV E below args s r) (F0 m 0 ls []) := by
  rw [X3_begin] at h
  refine lv_aload_n C.1 C.2.1 dX3_begin_0 rfl (lv_at hl 0 rfl) ?_
  refine lv_iconst (v := 0) C.1 C.2.1 dX3_begin_1 (by decide) ?_
  obtain ⟨σ2, e2, h⟩ := bnd h
  refine pfX3 C G X (k := a0) hk_a0 0 (x := (0 : Int32)) (ty := .int) rfl rfl (Nat.le_of_ble_eq_true rfl) (by decide) k_314 rfl rfl (by decide +kernel) rfl rfl dX3_begin_2 (fun H locs X => ?_)
  replace X := pu_x e2 X
  refine lv_aload_n C.1 C.2.1 dX3_begin_5 rfl (lv_at hl 0 rfl) ?_
  refine lv_iconst (v := 0) C.1 C.2.1 dX3_begin_6 (by decide) ?_
  obtain ⟨σ7, e7, h⟩ := bnd h
  refine pfX3 C G X (k := a0) hk_a0 5 (x := (0 : Int32)) (ty := .int) rfl rfl (Nat.le_of_ble_eq_true rfl) (by decide) k_320 rfl rfl (by decide +kernel) rfl rfl dX3_begin_7 (fun H locs X => ?_)
  replace X := pu_x e7 X
  rw [← Option.some.inj h]
  exact rtV C X dX3_begin_10

theorem c_X3_begin (l : Launch) (E : GE) {σ : Mem} {a0 : Nat} (hk_a0 : kd a0 = 3) {r : Mem} (h : X3_begin a0 σ = some r) : CtV l E yX3_begin cX3_begin 1 1 [.ref (gB E + a0)] σ r := by
  refine Met.ofW (cc := cX3_begin) (maxL := 1) (ret := none) (by decide) rfl ?_
  intro p e s m args below meth c s₁ B hml hv
  obtain ⟨rfl, G, X⟩ := start hv
  have C := cxof B hml
  have hl := lv_entry [.ref (gB E + a0)] (n := 1) (Nat.le_of_ble_eq_true rfl)
  rw [lg_entry_eq]
  generalize (lg_sl [.ref (gB E + a0)] ++ List.replicate (1 - (lg_sl [.ref (gB E + a0)]).length) Slot.unset).toArray = ls at hl ⊢
  exact w_X3_begin C G X hk_a0 hl h

set_option maxRecDepth 20000 in
theorem w_X3_beginLine {r : Mem} {σ : Mem} {a0 : Nat} {x1 : Int32} {x2 : Int32} {ls : Array Slot} {H : Heap} {locs : List Loc} (C : Cx p s m args meth c cX3_beginLine none 3 RX3) (G : Gf E s) (X : Hx E σ s H locs) (hk_a0 : kd a0 = 3) (hl : lv_has ls 3 [(0, .ref (gB E + a0)), (1, .int x1), (2, .int x2)]) (h : X3_beginLine a0 x1 x2 σ = some r) : W p l e (RM 2) s m args below meth c H locs 0 0 (QV E below args s r) (F0 m 0 ls []) := by
  rw [X3_beginLine] at h
  refine lv_aload_n C.1 C.2.1 dX3_beginLine_0 rfl (lv_at hl 0 rfl) ?_
  refine gfX3 C G X (k := a0) hk_a0 1 (v := .ref (gB E + (a0 + 1))) rfl rfl (by decide) k_316 rfl dX3_beginLine_1 ?_
  refine lv_aload_n C.1 C.2.1 dX3_beginLine_4 rfl (lv_at hl 0 rfl) ?_
  refine gfX3 C G X (k := a0) hk_a0 0 (v := .int (σ a0 0)) rfl rfl (by decide) k_314 rfl dX3_beginLine_5 ?_
  refine lv_iload_n C.1 C.2.1 dX3_beginLine_8 rfl (lv_at hl 1 rfl) ?_
  obtain ⟨σ9, e9, h⟩ := bnd h
  refine afV X (runV C G X q_X6_set k_451 k_452 k_548 (rcX6 G X (kf_3_1 hk_a0)) (c_X6_set l E (kf_3_1 hk_a0) e9) rfl hl.1 rfl (Nat.le_of_ble_eq_true rfl) ⟨Nat.le_of_ble_eq_true rfl, Nat.le_of_ble_eq_true rfl⟩ ⟨Nat.le_of_ble_eq_true rfl, Nat.le_of_ble_eq_true rfl⟩ dX3_beginLine_9) (fun H locs X => ?_)
  refine lv_aload_n C.1 C.2.1 dX3_beginLine_12 rfl (lv_at hl 0 rfl) ?_
  refine gfX3 C G X (k := a0) hk_a0 2 (v := .ref (gB E + (a0 + 3))) rfl rfl (by decide) k_317 rfl dX3_beginLine_13 ?_
  refine lv_aload_n C.1 C.2.1 dX3_beginLine_16 rfl (lv_at hl 0 rfl) ?_
  refine gfX3 C G X (k := a0) hk_a0 0 (v := .int (σ9 a0 0)) rfl rfl (by decide) k_314 rfl dX3_beginLine_17 ?_
  refine lv_iload_n C.1 C.2.1 dX3_beginLine_20 rfl (lv_at hl 2 rfl) ?_
  refine lv_if_eq (tgt := 28) C.1 C.2.1 dX3_beginLine_21 (by decide) (fun c21 => ?_) (fun c21 => ?_)
  · replace h := ipos c21 h
    refine lv_iconst (v := 0) C.1 C.2.1 dX3_beginLine_28 (by decide) ?_
    obtain ⟨σ29, e29, h⟩ := bnd h
    refine afV X (runV C G X q_X6_set k_451 k_452 k_548 (rcX6 G X (kf_3_3 hk_a0)) (c_X6_set l E (kf_3_3 hk_a0) e29) rfl hl.1 rfl (Nat.le_of_ble_eq_true rfl) ⟨Nat.le_of_ble_eq_true rfl, Nat.le_of_ble_eq_true rfl⟩ ⟨Nat.le_of_ble_eq_true rfl, Nat.le_of_ble_eq_true rfl⟩ dX3_beginLine_29) (fun H locs X => ?_)
    rw [← Option.some.inj h]
    exact rtV C X dX3_beginLine_32
  · replace h := ineg c21 h
    refine lv_iconst (v := 1) C.1 C.2.1 dX3_beginLine_24 (by decide) ?_
    refine lv_goto (tgt := 29) C.1 C.2.1 dX3_beginLine_25 (by decide) ?_
    obtain ⟨σ29, e29, h⟩ := bnd h
    refine afV X (runV C G X q_X6_set k_451 k_452 k_548 (rcX6 G X (kf_3_3 hk_a0)) (c_X6_set l E (kf_3_3 hk_a0) e29) rfl hl.1 rfl (Nat.le_of_ble_eq_true rfl) ⟨Nat.le_of_ble_eq_true rfl, Nat.le_of_ble_eq_true rfl⟩ ⟨Nat.le_of_ble_eq_true rfl, Nat.le_of_ble_eq_true rfl⟩ dX3_beginLine_29) (fun H locs X => ?_)
    rw [← Option.some.inj h]
    exact rtV C X dX3_beginLine_32

theorem c_X3_beginLine (l : Launch) (E : GE) {σ : Mem} {a0 : Nat} {x1 : Int32} {x2 : Int32} (hk_a0 : kd a0 = 3) {r : Mem} (h : X3_beginLine a0 x1 x2 σ = some r) : CtV l E yX3_beginLine cX3_beginLine 3 2 [.ref (gB E + a0), .int x1, .int x2] σ r := by
  refine Met.ofW (cc := cX3_beginLine) (maxL := 3) (ret := none) (by decide) rfl ?_
  intro p e s m args below meth c s₁ B hml hv
  obtain ⟨rfl, G, X⟩ := start hv
  have C := cxof B hml
  have hl := lv_entry [.ref (gB E + a0), .int x1, .int x2] (n := 3) (Nat.le_of_ble_eq_true rfl)
  rw [lg_entry_eq]
  generalize (lg_sl [.ref (gB E + a0), .int x1, .int x2] ++ List.replicate (3 - (lg_sl [.ref (gB E + a0), .int x1, .int x2]).length) Slot.unset).toArray = ls at hl ⊢
  exact w_X3_beginLine C G X hk_a0 hl h

set_option maxRecDepth 20000 in
theorem w_X3_emit {r : Mem} {σ : Mem} {a0 : Nat} {x1 : Int32} {ls : Array Slot} {H : Heap} {locs : List Loc} (C : Cx p s m args meth c cX3_emit none 2 RX3) (G : Gf E s) (X : Hx E σ s H locs) (hk_a0 : kd a0 = 3) (hl : lv_has ls 2 [(0, .ref (gB E + a0)), (1, .int x1)]) (h : X3_emit a0 x1 σ = some r) : W p l e (RM 2) s m args below meth c H locs 0 0 (QV E below args s r) (F0 m 0 ls []) := by
  rw [X3_emit] at h
  refine lv_aload_n C.1 C.2.1 dX3_emit_0 rfl (lv_at hl 0 rfl) ?_
  refine gfX3 C G X (k := a0) hk_a0 4 (v := .ref (gB E + (a0 + 7))) rfl rfl (by decide) k_319 rfl dX3_emit_1 ?_
  refine lv_aload_n C.1 C.2.1 dX3_emit_4 rfl (lv_at hl 0 rfl) ?_
  refine gfX3 C G X (k := a0) hk_a0 5 (v := .int (σ a0 5)) rfl rfl (by decide) k_320 rfl dX3_emit_5 ?_
  refine lv_iload_n C.1 C.2.1 dX3_emit_8 rfl (lv_at hl 1 rfl) ?_
  obtain ⟨σ9, e9, h⟩ := bnd h
  refine afV X (runV C G X q_X6_set k_451 k_452 k_548 (rcX6 G X (kf_3_7 hk_a0)) (c_X6_set l E (kf_3_7 hk_a0) e9) rfl hl.1 rfl (Nat.le_of_ble_eq_true rfl) ⟨Nat.le_of_ble_eq_true rfl, Nat.le_of_ble_eq_true rfl⟩ ⟨Nat.le_of_ble_eq_true rfl, Nat.le_of_ble_eq_true rfl⟩ dX3_emit_9) (fun H locs X => ?_)
  refine lv_aload_n C.1 C.2.1 dX3_emit_12 rfl (lv_at hl 0 rfl) ?_
  refine lv_dup C.1 C.2.1 dX3_emit_13 rfl ?_
  refine gfX3 C G X (k := a0) hk_a0 5 (v := .int (σ9 a0 5)) rfl rfl (by decide) k_320 rfl dX3_emit_14 ?_
  refine lv_iconst (v := 1) C.1 C.2.1 dX3_emit_17 (by decide) ?_
  refine lv_iadd C.1 C.2.1 dX3_emit_18 ?_
  obtain ⟨σ19, e19, h⟩ := bnd h
  refine pfX3 C G X (k := a0) hk_a0 5 (x := ((σ9 a0 5) + (1 : Int32))) (ty := .int) rfl rfl (Nat.le_of_ble_eq_true rfl) (by decide) k_320 rfl rfl (by decide +kernel) rfl rfl dX3_emit_19 (fun H locs X => ?_)
  replace X := pu_x e19 X
  rw [← Option.some.inj h]
  exact rtV C X dX3_emit_22

theorem c_X3_emit (l : Launch) (E : GE) {σ : Mem} {a0 : Nat} {x1 : Int32} (hk_a0 : kd a0 = 3) {r : Mem} (h : X3_emit a0 x1 σ = some r) : CtV l E yX3_emit cX3_emit 2 2 [.ref (gB E + a0), .int x1] σ r := by
  refine Met.ofW (cc := cX3_emit) (maxL := 2) (ret := none) (by decide) rfl ?_
  intro p e s m args below meth c s₁ B hml hv
  obtain ⟨rfl, G, X⟩ := start hv
  have C := cxof B hml
  have hl := lv_entry [.ref (gB E + a0), .int x1] (n := 2) (Nat.le_of_ble_eq_true rfl)
  rw [lg_entry_eq]
  generalize (lg_sl [.ref (gB E + a0), .int x1] ++ List.replicate (2 - (lg_sl [.ref (gB E + a0), .int x1]).length) Slot.unset).toArray = ls at hl ⊢
  exact w_X3_emit C G X hk_a0 hl h

set_option maxRecDepth 20000 in
theorem w_X9_isYesOrNo {r : Int32} {σ : Mem} {t0 : Int32} {ls : Array Slot} {H : Heap} {locs : List Loc} (C : Cx p s m args meth c cX9_isYesOrNo (some .boolean) 1 RX9) (G : Gf E s) (X : Hx E σ s H locs) (hl : lv_has ls 1 [(0, tV E t0)]) (h : X9_isYesOrNo σ t0 = some r) : W p l e (RM 1) s m args below meth c H locs 0 0 (QI E below args s r σ) (F0 m 0 ls []) := by
  rw [X9_isYesOrNo] at h
  refine lq_aload_n C.1 C.2.1 dX9_isYesOrNo_0 rfl (lv_at hl 0 rfl) ?_
  obtain ⟨r1, e1, h⟩ := bnd h
  refine gfFa C G X e1 k_2320 dX9_isYesOrNo_1 ?_
  refine lv_bipush (v := 7) C.1 C.2.1 dX9_isYesOrNo_4 (by decide) ?_
  refine lv_icmp_lt (tgt := 13) C.1 C.2.1 dX9_isYesOrNo_6 (by decide) (fun c6 => ?_) (fun c6 => ?_)
  · replace h := ipos c6 h
    refine lv_iconst (v := 0) C.1 C.2.1 dX9_isYesOrNo_13 (by decide) ?_
    obtain ⟨u14, z14, h⟩ := bnd h
    rw [← Option.some.inj h]
    exact rtZ C X (gb_s z14) dX9_isYesOrNo_14
  · replace h := ineg c6 h
    refine lv_iconst (v := 1) C.1 C.2.1 dX9_isYesOrNo_9 (by decide) ?_
    refine lv_goto (tgt := 14) C.1 C.2.1 dX9_isYesOrNo_10 (by decide) ?_
    obtain ⟨u14, z14, h⟩ := bnd h
    rw [← Option.some.inj h]
    exact rtZ C X (gb_s z14) dX9_isYesOrNo_14

theorem c_X9_isYesOrNo (l : Launch) (E : GE) {σ : Mem} {t0 : Int32} {r : Int32} (h : X9_isYesOrNo σ t0 = some r) : CtI l E yX9_isYesOrNo cX9_isYesOrNo 1 .boolean 1 [tV E t0] σ r σ := by
  refine Met.ofW (cc := cX9_isYesOrNo) (maxL := 1) (ret := (some .boolean)) (by decide) rfl ?_
  intro p e s m args below meth c s₁ B hml hv
  obtain ⟨rfl, G, X⟩ := start hv
  have C := cxof B hml
  have hl := lv_entry [tV E t0] (n := 1) (by unfold tV; cases tO E t0 <;> exact Nat.le_of_ble_eq_true rfl)
  rw [lg_entry_eq]
  generalize (lg_sl [tV E t0] ++ List.replicate (1 - (lg_sl [tV E t0]).length) Slot.unset).toArray = ls at hl ⊢
  exact w_X9_isYesOrNo C G X hl h

set_option maxRecDepth 20000 in
theorem w_X10_step {r : Mem} {σ : Mem} {ls : Array Slot} {H : Heap} {locs : List Loc} (C : Cx p s m args meth c cX10_step none 1 RX10) (G : Gf E s) (X : Hx E σ s H locs) (hl : lv_has ls 1 [(0, .ref (gB E + 1))]) (h : X10_step σ = some r) : W p l e (RM 1) s m args below meth c H locs 0 0 (QV E below args s r) (F0 m 0 ls []) := by
  rw [X10_step] at h
  refine lv_aload_n C.1 C.2.1 dX10_step_0 rfl (lv_at hl 0 rfl) ?_
  refine lv_dup C.1 C.2.1 dX10_step_1 rfl ?_
  refine gfX10 C G X (k := 1) kd_1 5 (v := .int (σ 1 5)) rfl rfl (by decide) k_170 rfl dX10_step_2 ?_
  refine lv_iconst (v := 1) C.1 C.2.1 dX10_step_5 (by decide) ?_
  refine lv_iadd C.1 C.2.1 dX10_step_6 ?_
  obtain ⟨σ7, e7, h⟩ := bnd h
  refine pfX10 C G X (k := 1) kd_1 5 (x := ((σ 1 5) + (1 : Int32))) (ty := .int) rfl rfl (Nat.le_of_ble_eq_true rfl) (by decide) k_170 rfl rfl (by decide +kernel) rfl rfl dX10_step_7 (fun H locs X => ?_)
  replace X := pu_x e7 X
  rw [← Option.some.inj h]
  exact rtV C X dX10_step_10

theorem c_X10_step (l : Launch) (E : GE) {σ : Mem} {r : Mem} (h : X10_step σ = some r) : CtV l E yX10_step cX10_step 1 1 [.ref (gB E + 1)] σ r := by
  refine Met.ofW (cc := cX10_step) (maxL := 1) (ret := none) (by decide) rfl ?_
  intro p e s m args below meth c s₁ B hml hv
  obtain ⟨rfl, G, X⟩ := start hv
  have C := cxof B hml
  have hl := lv_entry [.ref (gB E + 1)] (n := 1) (Nat.le_of_ble_eq_true rfl)
  rw [lg_entry_eq]
  generalize (lg_sl [.ref (gB E + 1)] ++ List.replicate (1 - (lg_sl [.ref (gB E + 1)]).length) Slot.unset).toArray = ls at hl ⊢
  exact w_X10_step C G X hl h

set_option maxRecDepth 20000 in
theorem w_X9_isPart {r : Int32} {σ : Mem} {t0 : Int32} {ls : Array Slot} {H : Heap} {locs : List Loc} (C : Cx p s m args meth c cX9_isPart (some .boolean) 1 RX9) (G : Gf E s) (X : Hx E σ s H locs) (hl : lv_has ls 1 [(0, tV E t0)]) (h : X9_isPart σ t0 = some r) : W p l e (RM 1) s m args below meth c H locs 0 0 (QI E below args s r σ) (F0 m 0 ls []) := by
  rw [X9_isPart] at h
  refine lq_aload_n C.1 C.2.1 dX9_isPart_0 rfl (lv_at hl 0 rfl) ?_
  obtain ⟨r1, e1, h⟩ := bnd h
  refine gfFa C G X e1 k_2320 dX9_isPart_1 ?_
  refine lv_if_lt (tgt := 20) C.1 C.2.1 dX9_isPart_4 (by decide) (fun c4 => ?_) (fun c4 => ?_)
  · replace h := ipos c4 h
    refine lv_iconst (v := 0) C.1 C.2.1 dX9_isPart_20 (by decide) ?_
    obtain ⟨u21, z21, h⟩ := bnd h
    rw [← Option.some.inj h]
    exact rtZ C X (gb_s z21) dX9_isPart_21
  · replace h := ineg c4 h
    refine lq_aload_n C.1 C.2.1 dX9_isPart_7 rfl (lv_at hl 0 rfl) ?_
    obtain ⟨r8, e8, h⟩ := bnd h
    refine gfFa C G X e8 k_2320 dX9_isPart_8 ?_
    refine lv_bipush (v := 7) C.1 C.2.1 dX9_isPart_11 (by decide) ?_
    refine lv_icmp_ge (tgt := 20) C.1 C.2.1 dX9_isPart_13 (by decide) (fun c13 => ?_) (fun c13 => ?_)
    · replace h := ipos c13 h
      refine lv_iconst (v := 0) C.1 C.2.1 dX9_isPart_20 (by decide) ?_
      obtain ⟨u21, z21, h⟩ := bnd h
      rw [← Option.some.inj h]
      exact rtZ C X (gb_s z21) dX9_isPart_21
    · replace h := ineg c13 h
      refine lv_iconst (v := 1) C.1 C.2.1 dX9_isPart_16 (by decide) ?_
      refine lv_goto (tgt := 21) C.1 C.2.1 dX9_isPart_17 (by decide) ?_
      obtain ⟨u21, z21, h⟩ := bnd h
      rw [← Option.some.inj h]
      exact rtZ C X (gb_s z21) dX9_isPart_21

theorem c_X9_isPart (l : Launch) (E : GE) {σ : Mem} {t0 : Int32} {r : Int32} (h : X9_isPart σ t0 = some r) : CtI l E yX9_isPart cX9_isPart 1 .boolean 1 [tV E t0] σ r σ := by
  refine Met.ofW (cc := cX9_isPart) (maxL := 1) (ret := (some .boolean)) (by decide) rfl ?_
  intro p e s m args below meth c s₁ B hml hv
  obtain ⟨rfl, G, X⟩ := start hv
  have C := cxof B hml
  have hl := lv_entry [tV E t0] (n := 1) (by unfold tV; cases tO E t0 <;> exact Nat.le_of_ble_eq_true rfl)
  rw [lg_entry_eq]
  generalize (lg_sl [tV E t0] ++ List.replicate (1 - (lg_sl [tV E t0]).length) Slot.unset).toArray = ls at hl ⊢
  exact w_X9_isPart C G X hl h

set_option maxRecDepth 20000 in
theorem w_X4_readSum_69 {r : (Int32 × Mem)} {σ : Mem} {rc2 : Nat → Int32 → Mem → Option (Int32 × Mem)} {a1 : Nat} {x2 : Int32} {ls : Array Slot} {H : Heap} {locs : List Loc} (C : Cx p s m args meth c cX4_readSum (some .boolean) 4 RX4) (G : Gf E s) (hr2 : ∀ {a1 : Nat} {x2 : Int32} {σ : Mem} {ls : Array Slot} {H : Heap} {locs : List Loc}, Hx E σ s H locs → kd a1 = 3 → lv_has ls 4 [(0, .ref (gB E + 1)), (1, .ref (gB E + a1)), (2, .int x2)] → rc2 a1 x2 σ = some r → W p l e (RM 3) s m args below meth c H locs 0 0 (QI E below args s r.1 r.2) (F0 m 2 ls [])) (X : Hx E σ s H locs) (hk_a1 : kd a1 = 3) (hl : lv_has ls 4 [(0, .ref (gB E + 1)), (1, .ref (gB E + a1)), (2, .int x2)]) (h : X4_readSum_69 rc2 a1 x2 σ = some r) : W p l e (RM 3) s m args below meth c H locs 0 0 (QI E below args s r.1 r.2) (F0 m 69 ls []) := by
  rw [X4_readSum_69] at h
  refine lv_aload_n C.1 C.2.1 dX4_readSum_69 rfl (lv_at hl 0 rfl) ?_
  refine gsT C G X (i := 6) (x := 7) (by decide) (by decide) (nm := "PLUS") rfl k_1138 dX4_readSum_70 ?_
  obtain ⟨r73, σ73, e73, h⟩ := bnd2 h
  refine afI (r0 := r73) (σ' := σ73) X (runV C G X q_X10_take k_914 k_915 k_1092 (rcX10 G X kd_1) (c_X10_take l E e73) rfl hl.1 rfl (Nat.le_of_ble_eq_true rfl) ⟨Nat.le_of_ble_eq_true rfl, Nat.le_of_ble_eq_true rfl⟩ ⟨Nat.le_of_ble_eq_true rfl, Nat.le_of_ble_eq_true rfl⟩ dX4_readSum_73) (fun H locs X => ?_)
  refine lv_if_ne (tgt := 81) C.1 C.2.1 dX4_readSum_76 (by decide) (fun c76 => ?_) (fun c76 => ?_)
  · replace h := ineg c76 h
    refine lv_iinc (v := (x2 + 1)) (lv' := [(2, .int (x2 + 1)), (0, .ref (gB E + 1)), (1, .ref (gB E + a1))]) C.1 C.2.1 dX4_readSum_81 hl (k := 2) rfl rfl (by decide) rfl (fun ls hl => ?_)
    refine lv_goto (tgt := 2) C.1 C.2.1 dX4_readSum_84 (by decide) ?_
    exact hr2 X hk_a1 (lv_sub hl [1, 2, 0] rfl) h
  · replace h := ipos c76 h
    refine lv_iconst (v := 1) C.1 C.2.1 dX4_readSum_79 (by decide) ?_
    obtain ⟨u80, z80, h⟩ := bnd h
    rw [← Option.some.inj h]
    exact rtZ C X (gb_s z80) dX4_readSum_80

set_option maxRecDepth 20000 in
theorem w_X4_readSum_60 {r : (Int32 × Mem)} {σ : Mem} {rc2 : Nat → Int32 → Mem → Option (Int32 × Mem)} {a1 : Nat} {x2 : Int32} {ls : Array Slot} {H : Heap} {locs : List Loc} (C : Cx p s m args meth c cX4_readSum (some .boolean) 4 RX4) (G : Gf E s) (hr2 : ∀ {a1 : Nat} {x2 : Int32} {σ : Mem} {ls : Array Slot} {H : Heap} {locs : List Loc}, Hx E σ s H locs → kd a1 = 3 → lv_has ls 4 [(0, .ref (gB E + 1)), (1, .ref (gB E + a1)), (2, .int x2)] → rc2 a1 x2 σ = some r → W p l e (RM 3) s m args below meth c H locs 0 0 (QI E below args s r.1 r.2) (F0 m 2 ls [])) (X : Hx E σ s H locs) (hk_a1 : kd a1 = 3) (hl : lv_has ls 4 [(0, .ref (gB E + 1)), (1, .ref (gB E + a1)), (2, .int x2)]) (h : X4_readSum_60 rc2 a1 x2 σ = some r) : W p l e (RM 3) s m args below meth c H locs 0 0 (QI E below args s r.1 r.2) (F0 m 60 ls []) := by
  rw [X4_readSum_60] at h
  refine lv_iload_n C.1 C.2.1 dX4_readSum_60 rfl (lv_at hl 2 rfl) ?_
  refine lv_if_le (tgt := 69) C.1 C.2.1 dX4_readSum_61 (by decide) (fun c61 => ?_) (fun c61 => ?_)
  · replace h := ipos c61 h
    exact w_X4_readSum_69 C G hr2 X hk_a1 (lv_sub hl [0, 1, 2] rfl) h
  · replace h := ineg c61 h
    refine lv_aload_n C.1 C.2.1 dX4_readSum_64 rfl (lv_at hl 1 rfl) ?_
    refine lv_iconst (v := -1) C.1 C.2.1 dX4_readSum_65 (by decide) ?_
    obtain ⟨σ66, e66, h⟩ := bnd h
    refine afV X (runV C G X q_X3_emit k_1120 k_1121 k_1119 (rcX3 G X hk_a1) (c_X3_emit l E hk_a1 e66) rfl hl.1 rfl (Nat.le_of_ble_eq_true rfl) ⟨Nat.le_of_ble_eq_true rfl, Nat.le_of_ble_eq_true rfl⟩ ⟨Nat.le_of_ble_eq_true rfl, Nat.le_of_ble_eq_true rfl⟩ dX4_readSum_66) (fun H locs X => ?_)
    exact w_X4_readSum_69 C G hr2 X hk_a1 (lv_sub hl [0, 1, 2] rfl) h

set_option maxRecDepth 20000 in
theorem w_X4_readSum_2 {r : (Int32 × Mem)} (C : Cx p s m args meth c cX4_readSum (some .boolean) 4 RX4) (G : Gf E s) : ∀ (f : Nat) {a1 : Nat} {x2 : Int32} {σ : Mem} {ls : Array Slot} {H : Heap} {locs : List Loc}, Hx E σ s H locs → kd a1 = 3 → lv_has ls 4 [(0, .ref (gB E + 1)), (1, .ref (gB E + a1)), (2, .int x2)] → X4_readSum_2 f a1 x2 σ = some r → W p l e (RM 3) s m args below meth c H locs 0 0 (QI E below args s r.1 r.2) (F0 m 2 ls []) := by
  intro f
  induction f with
  | zero =>
    intro a1 x2 σ ls H locs X hk_a1 hl h
    rw [X4_readSum_2] at h
    cases h
  | succ f ih =>
    intro a1 x2 σ ls H locs X hk_a1 hl h
    rw [X4_readSum_2] at h
    refine lv_iload_n C.1 C.2.1 dX4_readSum_2 rfl (lv_at hl 2 rfl) ?_
    refine lv_sipush (v := 400) C.1 C.2.1 dX4_readSum_3 (by decide) ?_
    refine lv_icmp_ge (tgt := 87) C.1 C.2.1 dX4_readSum_6 (by decide) (fun c6 => ?_) (fun c6 => ?_)
    · replace h := ipos c6 h
      refine lv_aload_n C.1 C.2.1 dX4_readSum_87 rfl (lv_at hl 0 rfl) ?_
      obtain ⟨r88, σ88, e88, h⟩ := bnd2 h
      refine afI (r0 := r88) (σ' := σ88) X (runV C G X q_X10_wrong k_918 k_919 k_1116 (rcX10 G X kd_1) (c_X10_wrong l E e88) rfl hl.1 rfl (Nat.le_of_ble_eq_true rfl) ⟨Nat.le_of_ble_eq_true rfl, Nat.le_of_ble_eq_true rfl⟩ ⟨Nat.le_of_ble_eq_true rfl, Nat.le_of_ble_eq_true rfl⟩ dX4_readSum_88) (fun H locs X => ?_)
      obtain ⟨u91, z91, h⟩ := bnd h
      rw [← Option.some.inj h]
      exact rtZ C X (gb_s z91) dX4_readSum_91
    · replace h := ineg c6 h
      refine lv_aload_n C.1 C.2.1 dX4_readSum_9 rfl (lv_at hl 0 rfl) ?_
      obtain ⟨r10, e10, h⟩ := bnd h
      refine afQ X (runV C G X q_X10_term k_904 k_905 k_1089 (rcX10 G X kd_1) (c_X10_term l E e10) rfl hl.1 rfl (Nat.le_of_ble_eq_true rfl) ⟨Nat.le_of_ble_eq_true rfl, Nat.le_of_ble_eq_true rfl⟩ ⟨Nat.le_of_ble_eq_true rfl, Nat.le_of_ble_eq_true rfl⟩ dX4_readSum_10) (fun H locs X => ?_)
      obtain ⟨u13, rz13, h⟩ := bnd h
      obtain ⟨r13, e13, h⟩ := bnd h
      refine afI X (runVT C G X rz13 q_X9_isPart k_1135 k_1136 k_1134 (c_X9_isPart l E e13) rfl hl.1 rfl (Nat.le_of_ble_eq_true rfl) ⟨Nat.le_of_ble_eq_true rfl, Nat.le_of_ble_eq_true rfl⟩ ⟨Nat.le_of_ble_eq_true rfl, Nat.le_of_ble_eq_true rfl⟩ dX4_readSum_13) (fun H locs X => ?_)
      refine lv_if_eq (tgt := 41) C.1 C.2.1 dX4_readSum_16 (by decide) (fun c16 => ?_) (fun c16 => ?_)
      · replace h := ipos c16 h
        refine lv_aload_n C.1 C.2.1 dX4_readSum_41 rfl (lv_at hl 0 rfl) ?_
        refine lv_sipush (v := 999) C.1 C.2.1 dX4_readSum_42 (by decide) ?_
        obtain ⟨r45, σ45, e45, h⟩ := bnd2 h
        refine afI (r0 := r45) (σ' := σ45) X (runV C G X q_X10_needUpTo k_931 k_932 k_1095 (rcX10 G X kd_1) (c_X10_needUpTo l E e45) rfl hl.1 rfl (Nat.le_of_ble_eq_true rfl) ⟨Nat.le_of_ble_eq_true rfl, Nat.le_of_ble_eq_true rfl⟩ ⟨Nat.le_of_ble_eq_true rfl, Nat.le_of_ble_eq_true rfl⟩ dX4_readSum_45) (fun H locs X => ?_)
        refine lv_istore_n (lv' := [(3, .int r45), (0, .ref (gB E + 1)), (1, .ref (gB E + a1)), (2, .int x2)]) C.1 C.2.1 dX4_readSum_48 rfl hl (by decide) rfl (fun ls hl => ?_)
        refine lv_iload_n C.1 C.2.1 dX4_readSum_49 rfl (lv_at hl 0 rfl) ?_
        refine lv_if_ge (tgt := 55) C.1 C.2.1 dX4_readSum_50 (by decide) (fun c50 => ?_) (fun c50 => ?_)
        · replace h := ipos c50 h
          refine lv_aload_n C.1 C.2.1 dX4_readSum_55 rfl (lv_at hl 2 rfl) ?_
          refine lv_iload_n C.1 C.2.1 dX4_readSum_56 rfl (lv_at hl 0 rfl) ?_
          obtain ⟨σ57, e57, h⟩ := bnd h
          refine afV X (runV C G X q_X3_emit k_1120 k_1121 k_1119 (rcX3 G X hk_a1) (c_X3_emit l E hk_a1 e57) rfl hl.1 rfl (Nat.le_of_ble_eq_true rfl) ⟨Nat.le_of_ble_eq_true rfl, Nat.le_of_ble_eq_true rfl⟩ ⟨Nat.le_of_ble_eq_true rfl, Nat.le_of_ble_eq_true rfl⟩ dX4_readSum_57) (fun H locs X => ?_)
          exact w_X4_readSum_60 C G ih X hk_a1 (lv_sub hl [1, 2, 3] rfl) h
        · replace h := ineg c50 h
          refine lv_iconst (v := 0) C.1 C.2.1 dX4_readSum_53 (by decide) ?_
          obtain ⟨u54, z54, h⟩ := bnd h
          rw [← Option.some.inj h]
          exact rtZ C X (gb_s z54) dX4_readSum_54
      · replace h := ineg c16 h
        refine lv_aload_n C.1 C.2.1 dX4_readSum_19 rfl (lv_at hl 1 rfl) ?_
        refine lv_sipush (v := 1000) C.1 C.2.1 dX4_readSum_20 (by decide) ?_
        refine lv_aload_n C.1 C.2.1 dX4_readSum_23 rfl (lv_at hl 0 rfl) ?_
        obtain ⟨r24, e24, h⟩ := bnd h
        refine afQ X (runV C G X q_X10_term k_904 k_905 k_1089 (rcX10 G X kd_1) (c_X10_term l E e24) rfl hl.1 rfl (Nat.le_of_ble_eq_true rfl) ⟨Nat.le_of_ble_eq_true rfl, Nat.le_of_ble_eq_true rfl⟩ ⟨Nat.le_of_ble_eq_true rfl, Nat.le_of_ble_eq_true rfl⟩ dX4_readSum_24) (fun H locs X => ?_)
        obtain ⟨r27, e27, h⟩ := bnd h
        refine gfFa C G X e27 k_2321 dX4_readSum_27 ?_
        refine lv_iadd C.1 C.2.1 dX4_readSum_30 ?_
        obtain ⟨σ31, e31, h⟩ := bnd h
        refine afV X (runV C G X q_X3_emit k_1120 k_1121 k_1119 (rcX3 G X hk_a1) (c_X3_emit l E hk_a1 e31) rfl hl.1 rfl (Nat.le_of_ble_eq_true rfl) ⟨Nat.le_of_ble_eq_true rfl, Nat.le_of_ble_eq_true rfl⟩ ⟨Nat.le_of_ble_eq_true rfl, Nat.le_of_ble_eq_true rfl⟩ dX4_readSum_31) (fun H locs X => ?_)
        refine lv_aload_n C.1 C.2.1 dX4_readSum_34 rfl (lv_at hl 0 rfl) ?_
        obtain ⟨σ35, e35, h⟩ := bnd h
        refine afV X (runV C G X q_X10_step k_1128 k_1129 k_1127 (rcX10 G X kd_1) (c_X10_step l E e35) rfl hl.1 rfl (Nat.le_of_ble_eq_true rfl) ⟨Nat.le_of_ble_eq_true rfl, Nat.le_of_ble_eq_true rfl⟩ ⟨Nat.le_of_ble_eq_true rfl, Nat.le_of_ble_eq_true rfl⟩ dX4_readSum_35) (fun H locs X => ?_)
        refine lv_goto (tgt := 60) C.1 C.2.1 dX4_readSum_38 (by decide) ?_
        exact w_X4_readSum_60 C G ih X hk_a1 (lv_sub hl [0, 1, 2] rfl) h

set_option maxRecDepth 20000 in
theorem w_X4_readSum {r : (Int32 × Mem)} {σ : Mem} {a1 : Nat} {ls : Array Slot} {H : Heap} {locs : List Loc} (C : Cx p s m args meth c cX4_readSum (some .boolean) 4 RX4) (G : Gf E s) (X : Hx E σ s H locs) (hk_a1 : kd a1 = 3) (hl : lv_has ls 4 [(0, .ref (gB E + 1)), (1, .ref (gB E + a1))]) (h : X4_readSum a1 σ = some r) : W p l e (RM 3) s m args below meth c H locs 0 0 (QI E below args s r.1 r.2) (F0 m 0 ls []) := by
  rw [X4_readSum] at h
  refine lv_iconst (v := 0) C.1 C.2.1 dX4_readSum_0 (by decide) ?_
  refine lv_istore_n (lv' := [(2, .int (0 : Int32)), (0, .ref (gB E + 1)), (1, .ref (gB E + a1))]) C.1 C.2.1 dX4_readSum_1 rfl hl (by decide) rfl (fun ls hl => ?_)
  exact w_X4_readSum_2 C G FU X hk_a1 (lv_sub hl [1, 2, 0] rfl) h

theorem c_X4_readSum (l : Launch) (E : GE) {σ : Mem} {a1 : Nat} (hk_a1 : kd a1 = 3) {r : (Int32 × Mem)} (h : X4_readSum a1 σ = some r) : CtI l E yX4_readSum cX4_readSum 4 .boolean 3 [.ref (gB E + 1), .ref (gB E + a1)] σ r.1 r.2 := by
  refine Met.ofW (cc := cX4_readSum) (maxL := 4) (ret := (some .boolean)) (by decide) rfl ?_
  intro p e s m args below meth c s₁ B hml hv
  obtain ⟨rfl, G, X⟩ := start hv
  have C := cxof B hml
  have hl := lv_entry [.ref (gB E + 1), .ref (gB E + a1)] (n := 4) (Nat.le_of_ble_eq_true rfl)
  rw [lg_entry_eq]
  generalize (lg_sl [.ref (gB E + 1), .ref (gB E + a1)] ++ List.replicate (4 - (lg_sl [.ref (gB E + 1), .ref (gB E + a1)]).length) Slot.unset).toArray = ls at hl ⊢
  exact w_X4_readSum C G X hk_a1 hl h

end WALK
